set_option maxRecDepth 20000 in
theorem vc32 {X : Nat × (Nat → Int32)} {d : Nat} (hd : 0 < d) {M : q_M} {a1 a2 a3 : Int32} {K : q_M → Prop} (h : ((a2 ≤ (M 64 0)) → (((¬ a2 = (M 64 0)) → (((a2 ≤ 0) → (K M)) ∧ ((¬ a2 ≤ 0) → (((¬ a2 = (M 44 1)) → (K M)) ∧ ((a2 = (M 44 1)) → (q_Ci X (d - 1) 87 [.int a3, .int a2] M (fun r6 M5 => q_Cv X (d - 1) 33 [.ref 64, .int a1, .int r6] M5 (fun M7 => K M7)))))))) ∧ ((a2 = (M 64 0)) → (((a2 ≤ 0) → (K (q_set M 64 1 ((M 64 1) &&& a1)))) ∧ ((¬ a2 ≤ 0) → (((¬ a2 = (M 44 1)) → (K (q_set M 64 1 ((M 64 1) &&& a1)))) ∧ ((a2 = (M 44 1)) → (q_Ci X (d - 1) 87 [.int a3, .int a2] (q_set M 64 1 ((M 64 1) &&& a1)) (fun r11 M10 => q_Cv X (d - 1) 33 [.ref 64, .int a1, .int r11] M10 (fun M12 => K M12)))))))))) ∧ ((¬ a2 ≤ (M 64 0)) → (((a2 ≤ 0) → (K (q_set (q_set M 64 0 a2) 64 1 a1))) ∧ ((¬ a2 ≤ 0) → (((¬ a2 = (M 44 1)) → (K (q_set (q_set M 64 0 a2) 64 1 a1))) ∧ ((a2 = (M 44 1)) → (q_Ci X (d - 1) 87 [.int a3, .int a2] (q_set (q_set M 64 0 a2) 64 1 a1) (fun r16 M15 => q_Cv X (d - 1) 33 [.ref 64, .int a1, .int r16] M15 (fun M17 => K M17))))))))) : q_Cv X d 32 [.ref 64, .int a1, .int a2, .int a3] M K := by
  show q_Ex X d 32 0 [some (.ref 64), some (.int a1), some (.int a2), some (.int a3)] [] M (q_rn K)
  refine q_iload_n (pc := 0) k32_0 rfl ?_
  refine q_aload_n (pc := 1) k32_1 rfl ?_
  refine q_getIv (pc := 2) (v := M 64 0) k32_2 fg32_40 rfl rfl rfl ?_
  refine q_icmp_le (pc := 5) 21 k32_5 (by decide) (fun g1 => ?_) (fun g1 => ?_)
  · replace h := h.1 g1
    refine q_iload_n (pc := 21) k32_21 rfl ?_
    refine q_aload_n (pc := 22) k32_22 rfl ?_
    refine q_getIv (pc := 23) (v := M 64 0) k32_23 fg32_40 rfl rfl rfl ?_
    refine q_icmp_ne (pc := 26) 39 k32_26 (by decide) (fun g2 => ?_) (fun g2 => ?_)
    · replace h := h.1 g2
      refine q_iload_n (pc := 39) k32_39 rfl ?_
      refine q_if_le (pc := 40) 64 k32_40 (by decide) (fun g3 => ?_) (fun g3 => ?_)
      · replace h := h.1 g3
        exact q_return (pc := 64) k32_64 rfl ⟨rfl, h⟩
      · replace h := h.2 g3
        refine q_iload_n (pc := 43) k32_43 rfl ?_
        refine q_aload_n (pc := 44) k32_44 rfl ?_
        refine q_getR (pc := 45) k32_45 fg32_36 rfl rfl ?_
        refine q_getIv (pc := 48) (v := M 44 1) k32_48 fg32_69 rfl rfl rfl ?_
        refine q_icmp_ne (pc := 51) 64 k32_51 (by decide) (fun g4 => ?_) (fun g4 => ?_)
        · replace h := h.1 g4
          exact q_return (pc := 64) k32_64 rfl ⟨rfl, h⟩
        · replace h := h.2 g4
          refine q_aload_n (pc := 54) k32_54 rfl ?_
          refine q_iload_n (pc := 55) k32_55 rfl ?_
          refine q_iload_n (pc := 56) k32_56 rfl ?_
          refine q_iload_n (pc := 57) k32_57 rfl ?_
          refine q_invSN (pc := 58) (As := [.int a3, .int a2]) (st := [.int a1, .ref 64]) k32_58 lm32_88 os87 rfl rfl (q_cat rfl) (Nat.le_of_ble_eq_true rfl) hd h ?_
          rintro v M5 ⟨r6, rfl, h⟩
          show q_Ex X d 32 (58 + 3) [some (.ref 64), some (.int a1), some (.int a2), some (.int a3)] [.int r6, .int a1, .ref 64] M5 _
          refine q_invV (pc := 61) (As := [.int a1, .int r6]) (st := []) k32_61 lm32_92 ov33 rfl rfl rfl (q_cat rfl) (Nat.le_of_ble_eq_true rfl) hd h ?_
          rintro v M7 ⟨rfl, h⟩
          show q_Ex X d 32 (61 + 3) [some (.ref 64), some (.int a1), some (.int a2), some (.int a3)] [] M7 _
          exact q_return (pc := 64) k32_64 rfl ⟨rfl, h⟩
    · replace h := h.2 g2
      refine q_aload_n (pc := 29) k32_29 rfl ?_
      refine q_dup (pc := 30) k32_30 rfl ?_
      refine q_getIv (pc := 31) (v := M 64 1) k32_31 fg32_44 rfl rfl rfl ?_
      refine q_iload_n (pc := 34) k32_34 rfl ?_
      refine q_iand (pc := 35) k32_35 ?_
      refine q_putI (pc := 36) k32_36 fp32_44 rfl rfl ?_
      refine q_iload_n (pc := 39) k32_39 rfl ?_
      refine q_if_le (pc := 40) 64 k32_40 (by decide) (fun g8 => ?_) (fun g8 => ?_)
      · replace h := h.1 g8
        exact q_return (pc := 64) k32_64 rfl ⟨rfl, h⟩
      · replace h := h.2 g8
        refine q_iload_n (pc := 43) k32_43 rfl ?_
        refine q_aload_n (pc := 44) k32_44 rfl ?_
        refine q_getR (pc := 45) k32_45 fg32_36 rfl rfl ?_
        refine q_getIv (pc := 48) (v := M 44 1) k32_48 fg32_69 rfl rfl rfl ?_
        refine q_icmp_ne (pc := 51) 64 k32_51 (by decide) (fun g9 => ?_) (fun g9 => ?_)
        · replace h := h.1 g9
          exact q_return (pc := 64) k32_64 rfl ⟨rfl, h⟩
        · replace h := h.2 g9
          refine q_aload_n (pc := 54) k32_54 rfl ?_
          refine q_iload_n (pc := 55) k32_55 rfl ?_
          refine q_iload_n (pc := 56) k32_56 rfl ?_
          refine q_iload_n (pc := 57) k32_57 rfl ?_
          refine q_invSN (pc := 58) (As := [.int a3, .int a2]) (st := [.int a1, .ref 64]) k32_58 lm32_88 os87 rfl rfl (q_cat rfl) (Nat.le_of_ble_eq_true rfl) hd h ?_
          rintro v M10 ⟨r11, rfl, h⟩
          show q_Ex X d 32 (58 + 3) [some (.ref 64), some (.int a1), some (.int a2), some (.int a3)] [.int r11, .int a1, .ref 64] M10 _
          refine q_invV (pc := 61) (As := [.int a1, .int r11]) (st := []) k32_61 lm32_92 ov33 rfl rfl rfl (q_cat rfl) (Nat.le_of_ble_eq_true rfl) hd h ?_
          rintro v M12 ⟨rfl, h⟩
          show q_Ex X d 32 (61 + 3) [some (.ref 64), some (.int a1), some (.int a2), some (.int a3)] [] M12 _
          exact q_return (pc := 64) k32_64 rfl ⟨rfl, h⟩
  · replace h := h.2 g1
    refine q_aload_n (pc := 8) k32_8 rfl ?_
    refine q_iload_n (pc := 9) k32_9 rfl ?_
    refine q_putI (pc := 10) k32_10 fp32_40 rfl rfl ?_
    refine q_aload_n (pc := 13) k32_13 rfl ?_
    refine q_iload_n (pc := 14) k32_14 rfl ?_
    refine q_putI (pc := 15) k32_15 fp32_44 rfl rfl ?_
    refine q_goto (pc := 18) 39 k32_18 (by decide) ?_
    refine q_iload_n (pc := 39) k32_39 rfl ?_
    refine q_if_le (pc := 40) 64 k32_40 (by decide) (fun g13 => ?_) (fun g13 => ?_)
    · replace h := h.1 g13
      exact q_return (pc := 64) k32_64 rfl ⟨rfl, h⟩
    · replace h := h.2 g13
      refine q_iload_n (pc := 43) k32_43 rfl ?_
      refine q_aload_n (pc := 44) k32_44 rfl ?_
      refine q_getR (pc := 45) k32_45 fg32_36 rfl rfl ?_
      refine q_getIv (pc := 48) (v := M 44 1) k32_48 fg32_69 rfl rfl rfl ?_
      refine q_icmp_ne (pc := 51) 64 k32_51 (by decide) (fun g14 => ?_) (fun g14 => ?_)
      · replace h := h.1 g14
        exact q_return (pc := 64) k32_64 rfl ⟨rfl, h⟩
      · replace h := h.2 g14
        refine q_aload_n (pc := 54) k32_54 rfl ?_
        refine q_iload_n (pc := 55) k32_55 rfl ?_
        refine q_iload_n (pc := 56) k32_56 rfl ?_
        refine q_iload_n (pc := 57) k32_57 rfl ?_
        refine q_invSN (pc := 58) (As := [.int a3, .int a2]) (st := [.int a1, .ref 64]) k32_58 lm32_88 os87 rfl rfl (q_cat rfl) (Nat.le_of_ble_eq_true rfl) hd h ?_
        rintro v M15 ⟨r16, rfl, h⟩
        show q_Ex X d 32 (58 + 3) [some (.ref 64), some (.int a1), some (.int a2), some (.int a3)] [.int r16, .int a1, .ref 64] M15 _
        refine q_invV (pc := 61) (As := [.int a1, .int r16]) (st := []) k32_61 lm32_92 ov33 rfl rfl rfl (q_cat rfl) (Nat.le_of_ble_eq_true rfl) hd h ?_
        rintro v M17 ⟨rfl, h⟩
        show q_Ex X d 32 (61 + 3) [some (.ref 64), some (.int a1), some (.int a2), some (.int a3)] [] M17 _
        exact q_return (pc := 64) k32_64 rfl ⟨rfl, h⟩
set_option maxRecDepth 20000 in
theorem vc33 {X : Nat × (Nat → Int32)} {d : Nat} {M : q_M} {a1 a2 : Int32} {K : q_M → Prop} (h : ((0 ≤ a2) → (q_Ex X d 33 10 [some (.ref 64), some (.int a1), some (.int a2), some (.int 0), some (.int 0)] [] M (q_rn K))) ∧ ((¬ 0 ≤ a2) → (K M))) : q_Cv X d 33 [.ref 64, .int a1, .int a2] M K := by
  show q_Ex X d 33 0 [some (.ref 64), some (.int a1), some (.int a2), none, none] [] M (q_rn K)
  refine q_iload_n (pc := 0) k33_0 rfl ?_
  refine q_if_ge (pc := 1) 5 k33_1 (by decide) (fun g1 => ?_) (fun g1 => ?_)
  · replace h := h.1 g1
    refine q_iconst (pc := 5) (v := 0) k33_5 (by decide) ?_
    refine q_istore_n (pc := 6) [some (.ref 64), some (.int a1), some (.int a2), some (.int 0), none] k33_6 rfl (by decide) rfl ?_
    refine q_iconst (pc := 7) (v := 0) k33_7 (by decide) ?_
    refine q_istore (pc := 8) [some (.ref 64), some (.int a1), some (.int a2), some (.int 0), some (.int 0)] k33_8 rfl (by decide) rfl ?_
    exact h
  · replace h := h.2 g1
    exact q_return (pc := 4) k33_4 rfl ⟨rfl, h⟩
set_option maxRecDepth 20000 in
theorem vc33_p10 {X : Nat × (Nat → Int32)} {d : Nat} (hd : 0 < d) {M : q_M} {a1 a2 a3 a4 : Int32} {K : q_M → Prop} (h : (((M 11 2) ≤ a4) → (vp_in a2 9 ∧ ((((M 66 (Int32.toNatClampNeg a2)) = 0) → (vp_in a2 9 ∧ (vp_in a2 9 ∧ (vp_in a2 9 ∧ (K (q_set (q_set M 67 (Int32.toNatClampNeg a2) a3) 66 (Int32.toNatClampNeg a2) ((M 66 (Int32.toNatClampNeg a2)) + 1))))))) ∧ ((¬ (M 66 (Int32.toNatClampNeg a2)) = 0) → (vp_in a2 9 ∧ ((((M 67 (Int32.toNatClampNeg a2)) ≤ a3) → (vp_in a2 9 ∧ (vp_in a2 9 ∧ (K (q_set M 66 (Int32.toNatClampNeg a2) ((M 66 (Int32.toNatClampNeg a2)) + 1)))))) ∧ ((¬ (M 67 (Int32.toNatClampNeg a2)) ≤ a3) → (vp_in a2 9 ∧ (vp_in a2 9 ∧ (vp_in a2 9 ∧ (K (q_set (q_set M 67 (Int32.toNatClampNeg a2) a3) 66 (Int32.toNatClampNeg a2) ((M 66 (Int32.toNatClampNeg a2)) + 1))))))))))))) ∧ ((¬ (M 11 2) ≤ a4) → (q_Ci X (d - 1) 90 [.int a1, .int a4] M (fun r5 M4 => ((r5 = 0) → (q_Ex X d 33 10 [some (.ref 64), some (.int a1), some (.int a2), some (.int a3), some (.int (a4 + 1))] [] M4 (q_rn K))) ∧ ((¬ r5 = 0) → (vp_in a4 30 ∧ (vp_in a2 9 ∧ (vp_in a4 30 ∧ (vp_in a4 30 ∧ (vp_in a2 9 ∧ (vp_in a4 30 ∧ (q_Ci X (d - 1) 34 [.ref 64, .int a4] (q_set M4 (69 + Int32.toNatClampNeg a2) (Int32.toNatClampNeg a4) ((M4 (69 + Int32.toNatClampNeg a2) (Int32.toNatClampNeg a4)) + 1)) (fun r10 M9 => vp_in a4 30 ∧ (q_Ex X d 33 10 [some (.ref 64), some (.int a1), some (.int a2), some (.int (a3 + (M4 13 (Int32.toNatClampNeg a4)))), some (.int (a4 + 1))] [] (q_set M9 (79 + Int32.toNatClampNeg a2) (Int32.toNatClampNeg a4) (((q_set M4 (69 + Int32.toNatClampNeg a2) (Int32.toNatClampNeg a4) ((M4 (69 + Int32.toNatClampNeg a2) (Int32.toNatClampNeg a4)) + 1)) (79 + Int32.toNatClampNeg a2) (Int32.toNatClampNeg a4)) ||| r10)) (q_rn K))))))))))))))) : q_Ex X d 33 10 [some (.ref 64), some (.int a1), some (.int a2), some (.int a3), some (.int a4)] [] M (q_rn K) := by
  refine q_iload (pc := 10) k33_10 rfl ?_
  refine q_aload_n (pc := 12) k33_12 rfl ?_
  refine q_getR (pc := 13) k33_13 fg33_32 rfl rfl ?_
  refine q_getIv (pc := 16) (v := M 11 2) k33_16 fg33_96 rfl rfl rfl ?_
  refine q_icmp_ge (pc := 19) 81 k33_19 (by decide) (fun g1 => ?_) (fun g1 => ?_)
  · replace h := h.1 g1
    refine q_aload_n (pc := 81) k33_81 rfl ?_
    refine q_getR (pc := 82) k33_82 fg33_18 rfl rfl ?_
    refine q_iload_n (pc := 85) k33_85 rfl ?_
    refine q_ialdv (pc := 86) (v := M 66 (Int32.toNatClampNeg a2)) k33_86 rfl h.1 rfl ?_
    replace h := h.2
    refine q_if_eq (pc := 87) 100 k33_87 (by decide) (fun g2 => ?_) (fun g2 => ?_)
    · replace h := h.1 g2
      refine q_aload_n (pc := 100) k33_100 rfl ?_
      refine q_getR (pc := 101) k33_101 fg33_21 rfl rfl ?_
      refine q_iload_n (pc := 104) k33_104 rfl ?_
      refine q_iload_n (pc := 105) k33_105 rfl ?_
      refine q_iastv (pc := 106) (k := (Int32.toNatClampNeg a2)) k33_106 rfl h.1 rfl ?_
      replace h := h.2
      refine q_aload_n (pc := 107) k33_107 rfl ?_
      refine q_getR (pc := 108) k33_108 fg33_18 rfl rfl ?_
      refine q_iload_n (pc := 111) k33_111 rfl ?_
      refine q_dup2 (pc := 112) k33_112 rfl rfl ?_
      refine q_ialdv (pc := 113) (v := M 66 (Int32.toNatClampNeg a2)) k33_113 rfl h.1 rfl ?_
      replace h := h.2
      refine q_iconst (pc := 114) (v := 1) k33_114 (by decide) ?_
      refine q_iadd (pc := 115) k33_115 ?_
      refine q_iastv (pc := 116) (k := (Int32.toNatClampNeg a2)) k33_116 rfl h.1 rfl ?_
      replace h := h.2
      exact q_return (pc := 117) k33_117 rfl ⟨rfl, h⟩
    · replace h := h.2 g2
      refine q_iload_n (pc := 90) k33_90 rfl ?_
      refine q_aload_n (pc := 91) k33_91 rfl ?_
      refine q_getR (pc := 92) k33_92 fg33_21 rfl rfl ?_
      refine q_iload_n (pc := 95) k33_95 rfl ?_
      refine q_ialdv (pc := 96) (v := M 67 (Int32.toNatClampNeg a2)) k33_96 rfl h.1 rfl ?_
      replace h := h.2
      refine q_icmp_ge (pc := 97) 107 k33_97 (by decide) (fun g3 => ?_) (fun g3 => ?_)
      · replace h := h.1 g3
        refine q_aload_n (pc := 107) k33_107 rfl ?_
        refine q_getR (pc := 108) k33_108 fg33_18 rfl rfl ?_
        refine q_iload_n (pc := 111) k33_111 rfl ?_
        refine q_dup2 (pc := 112) k33_112 rfl rfl ?_
        refine q_ialdv (pc := 113) (v := M 66 (Int32.toNatClampNeg a2)) k33_113 rfl h.1 rfl ?_
        replace h := h.2
        refine q_iconst (pc := 114) (v := 1) k33_114 (by decide) ?_
        refine q_iadd (pc := 115) k33_115 ?_
        refine q_iastv (pc := 116) (k := (Int32.toNatClampNeg a2)) k33_116 rfl h.1 rfl ?_
        replace h := h.2
        exact q_return (pc := 117) k33_117 rfl ⟨rfl, h⟩
      · replace h := h.2 g3
        refine q_aload_n (pc := 100) k33_100 rfl ?_
        refine q_getR (pc := 101) k33_101 fg33_21 rfl rfl ?_
        refine q_iload_n (pc := 104) k33_104 rfl ?_
        refine q_iload_n (pc := 105) k33_105 rfl ?_
        refine q_iastv (pc := 106) (k := (Int32.toNatClampNeg a2)) k33_106 rfl h.1 rfl ?_
        replace h := h.2
        refine q_aload_n (pc := 107) k33_107 rfl ?_
        refine q_getR (pc := 108) k33_108 fg33_18 rfl rfl ?_
        refine q_iload_n (pc := 111) k33_111 rfl ?_
        refine q_dup2 (pc := 112) k33_112 rfl rfl ?_
        refine q_ialdv (pc := 113) (v := M 66 (Int32.toNatClampNeg a2)) k33_113 rfl h.1 rfl ?_
        replace h := h.2
        refine q_iconst (pc := 114) (v := 1) k33_114 (by decide) ?_
        refine q_iadd (pc := 115) k33_115 ?_
        refine q_iastv (pc := 116) (k := (Int32.toNatClampNeg a2)) k33_116 rfl h.1 rfl ?_
        replace h := h.2
        exact q_return (pc := 117) k33_117 rfl ⟨rfl, h⟩
  · replace h := h.2 g1
    refine q_iload_n (pc := 22) k33_22 rfl ?_
    refine q_iload (pc := 23) k33_23 rfl ?_
    refine q_invSN (pc := 25) (As := [.int a1, .int a4]) (st := []) k33_25 lm33_98 os90 rfl rfl (q_cat rfl) (Nat.le_of_ble_eq_true rfl) hd h ?_
    rintro v M4 ⟨r5, rfl, h⟩
    show q_Ex X d 33 (25 + 3) [some (.ref 64), some (.int a1), some (.int a2), some (.int a3), some (.int a4)] [.int r5] M4 _
    refine q_if_eq (pc := 28) 75 k33_28 (by decide) (fun g6 => ?_) (fun g6 => ?_)
    · replace h := h.1 g6
      refine q_iinc (pc := 75) (v := a4 + 1) [some (.ref 64), some (.int a1), some (.int a2), some (.int a3), some (.int (a4 + 1))] k33_75 rfl rfl rfl (by decide) rfl ?_
      refine q_goto (pc := 78) 10 k33_78 (by decide) ?_
      exact h
    · replace h := h.2 g6
      refine q_iload_n (pc := 31) k33_31 rfl ?_
      refine q_aload_n (pc := 32) k33_32 rfl ?_
      refine q_getR (pc := 33) k33_33 fg33_32 rfl rfl ?_
      refine q_getR (pc := 36) k33_36 fg33_102 rfl rfl ?_
      refine q_iload (pc := 39) k33_39 rfl ?_
      refine q_ialdv (pc := 41) (v := M4 13 (Int32.toNatClampNeg a4)) k33_41 rfl h.1 rfl ?_
      replace h := h.2
      refine q_iadd (pc := 42) k33_42 ?_
      refine q_istore_n (pc := 43) [some (.ref 64), some (.int a1), some (.int a2), some (.int (a3 + (M4 13 (Int32.toNatClampNeg a4)))), some (.int a4)] k33_43 rfl (by decide) rfl ?_
      refine q_aload_n (pc := 44) k33_44 rfl ?_
      refine q_getR (pc := 45) k33_45 fg33_26 rfl rfl ?_
      refine q_iload_n (pc := 48) k33_48 rfl ?_
      have w7 := h.1
      replace h := h.2
      refine q_aald (pc := 49) k33_49 rfl w7 ?_
      refine q_iload (pc := 50) k33_50 rfl ?_
      refine q_dup2 (pc := 52) k33_52 rfl rfl ?_
      refine q_ialdv (pc := 53) (v := M4 (69 + Int32.toNatClampNeg a2) (Int32.toNatClampNeg a4)) k33_53 (rw68 w7) h.1 rfl ?_
      replace h := h.2
      refine q_iconst (pc := 54) (v := 1) k33_54 (by decide) ?_
      refine q_iadd (pc := 55) k33_55 ?_
      refine q_iastv (pc := 56) (k := (Int32.toNatClampNeg a4)) k33_56 (rw68 w7) h.1 rfl ?_
      replace h := h.2
      refine q_aload_n (pc := 57) k33_57 rfl ?_
      refine q_getR (pc := 58) k33_58 fg33_29 rfl rfl ?_
      refine q_iload_n (pc := 61) k33_61 rfl ?_
      have w8 := h.1
      replace h := h.2
      refine q_aald (pc := 62) k33_62 rfl w8 ?_
      refine q_iload (pc := 63) k33_63 rfl ?_
      refine q_dup2 (pc := 65) k33_65 rfl rfl ?_
      refine q_ialdv (pc := 66) (v := (q_set M4 (69 + Int32.toNatClampNeg a2) (Int32.toNatClampNeg a4) ((M4 (69 + Int32.toNatClampNeg a2) (Int32.toNatClampNeg a4)) + 1)) (79 + Int32.toNatClampNeg a2) (Int32.toNatClampNeg a4)) k33_66 (rw78 w8) h.1 rfl ?_
      replace h := h.2
      refine q_aload_n (pc := 67) k33_67 rfl ?_
      refine q_iload (pc := 68) k33_68 rfl ?_
      refine q_invV (pc := 70) (As := [.int a4]) (st := [.int ((q_set M4 (69 + Int32.toNatClampNeg a2) (Int32.toNatClampNeg a4) ((M4 (69 + Int32.toNatClampNeg a2) (Int32.toNatClampNeg a4)) + 1)) (79 + Int32.toNatClampNeg a2) (Int32.toNatClampNeg a4)), .int a4, .ref (79 + Int32.toNatClampNeg a2)]) k33_70 lm33_105 ov34 rfl rfl rfl (q_cat rfl) (Nat.le_of_ble_eq_true rfl) hd h ?_
      rintro v M9 ⟨r10, rfl, h⟩
      show q_Ex X d 33 (70 + 3) [some (.ref 64), some (.int a1), some (.int a2), some (.int (a3 + (M4 13 (Int32.toNatClampNeg a4)))), some (.int a4)] [.int r10, .int ((q_set M4 (69 + Int32.toNatClampNeg a2) (Int32.toNatClampNeg a4) ((M4 (69 + Int32.toNatClampNeg a2) (Int32.toNatClampNeg a4)) + 1)) (79 + Int32.toNatClampNeg a2) (Int32.toNatClampNeg a4)), .int a4, .ref (79 + Int32.toNatClampNeg a2)] M9 _
      refine q_ior (pc := 73) k33_73 ?_
      refine q_iastv (pc := 74) (k := (Int32.toNatClampNeg a4)) k33_74 (rw78 w8) h.1 rfl ?_
      replace h := h.2
      refine q_iinc (pc := 75) (v := a4 + 1) [some (.ref 64), some (.int a1), some (.int a2), some (.int (a3 + (M4 13 (Int32.toNatClampNeg a4)))), some (.int (a4 + 1))] k33_75 rfl rfl rfl (by decide) rfl ?_
      refine q_goto (pc := 78) 10 k33_78 (by decide) ?_
      exact h
set_option maxRecDepth 20000 in
theorem vc34 {X : Nat × (Nat → Int32)} {d : Nat} {M : q_M} {a1 : Int32} {K : Int32 → q_M → Prop} (h : q_Ex X d 34 4 [some (.ref 64), some (.int a1), some (.int 0), some (.int 0)] [] M (q_ri K)) : q_Ci X d 34 [.ref 64, .int a1] M K := by
  show q_Ex X d 34 0 [some (.ref 64), some (.int a1), none, none] [] M (q_ri K)
  refine q_iconst (pc := 0) (v := 0) k34_0 (by decide) ?_
  refine q_istore_n (pc := 1) [some (.ref 64), some (.int a1), some (.int 0), none] k34_1 rfl (by decide) rfl ?_
  refine q_iconst (pc := 2) (v := 0) k34_2 (by decide) ?_
  refine q_istore_n (pc := 3) [some (.ref 64), some (.int a1), some (.int 0), some (.int 0)] k34_3 rfl (by decide) rfl ?_
  exact h
set_option maxRecDepth 20000 in
theorem vc34_p4 {X : Nat × (Nat → Int32)} {d : Nat} {M : q_M} {a1 a2 a3 : Int32} {K : Int32 → q_M → Prop} (h : (((M 44 1) ≤ a3) → (K a2 M)) ∧ ((¬ (M 44 1) ≤ a3) → (vp_in a3 3 ∧ (q_Ex X d 34 4 [some (.ref 64), some (.int a1), some (.int (a2 ||| ((((M 65 (Int32.toNatClampNeg a3)) >>> (a1 &&& 31)) &&& 1) <<< (a3 &&& 31)))), some (.int (a3 + 1))] [] M (q_ri K))))) : q_Ex X d 34 4 [some (.ref 64), some (.int a1), some (.int a2), some (.int a3)] [] M (q_ri K) := by
  refine q_iload_n (pc := 4) k34_4 rfl ?_
  refine q_aload_n (pc := 5) k34_5 rfl ?_
  refine q_getR (pc := 6) k34_6 fg34_36 rfl rfl ?_
  refine q_getIv (pc := 9) (v := M 44 1) k34_9 fg34_69 rfl rfl rfl ?_
  refine q_icmp_ge (pc := 12) 36 k34_12 (by decide) (fun g1 => ?_) (fun g1 => ?_)
  · replace h := h.1 g1
    refine q_iload_n (pc := 36) k34_36 rfl ?_
    exact q_ireturn (pc := 37) k34_37 rfl ⟨_, rfl, h⟩
  · replace h := h.2 g1
    refine q_iload_n (pc := 15) k34_15 rfl ?_
    refine q_aload_n (pc := 16) k34_16 rfl ?_
    refine q_getR (pc := 17) k34_17 fg34_9 rfl rfl ?_
    refine q_iload_n (pc := 20) k34_20 rfl ?_
    refine q_ialdv (pc := 21) (v := M 65 (Int32.toNatClampNeg a3)) k34_21 rfl h.1 rfl ?_
    replace h := h.2
    refine q_iload_n (pc := 22) k34_22 rfl ?_
    refine q_ishr (pc := 23) k34_23 ?_
    refine q_iconst (pc := 24) (v := 1) k34_24 (by decide) ?_
    refine q_iand (pc := 25) k34_25 ?_
    refine q_iload_n (pc := 26) k34_26 rfl ?_
    refine q_ishl (pc := 27) k34_27 ?_
    refine q_ior (pc := 28) k34_28 ?_
    refine q_istore_n (pc := 29) [some (.ref 64), some (.int a1), some (.int (a2 ||| ((((M 65 (Int32.toNatClampNeg a3)) >>> (a1 &&& 31)) &&& 1) <<< (a3 &&& 31)))), some (.int a3)] k34_29 rfl (by decide) rfl ?_
    refine q_iinc (pc := 30) (v := a3 + 1) [some (.ref 64), some (.int a1), some (.int (a2 ||| ((((M 65 (Int32.toNatClampNeg a3)) >>> (a1 &&& 31)) &&& 1) <<< (a3 &&& 31)))), some (.int (a3 + 1))] k34_30 rfl rfl rfl (by decide) rfl ?_
    refine q_goto (pc := 33) 4 k34_33 (by decide) ?_
    exact h
set_option maxRecDepth 20000 in
theorem vc35 {X : Nat × (Nat → Int32)} {d : Nat} {M : q_M} {a1 : Int32} {K : Int32 → q_M → Prop} (h : q_Ex X d 35 4 [some (.ref 64), some (.int a1), some (.int 0), some (.int 0)] [] M (q_ri K)) : q_Ci X d 35 [.ref 64, .int a1] M K := by
  show q_Ex X d 35 0 [some (.ref 64), some (.int a1), none, none] [] M (q_ri K)
  refine q_iconst (pc := 0) (v := 0) k35_0 (by decide) ?_
  refine q_istore_n (pc := 1) [some (.ref 64), some (.int a1), some (.int 0), none] k35_1 rfl (by decide) rfl ?_
  refine q_iconst (pc := 2) (v := 0) k35_2 (by decide) ?_
  refine q_istore_n (pc := 3) [some (.ref 64), some (.int a1), some (.int 0), some (.int 0)] k35_3 rfl (by decide) rfl ?_
  exact h
set_option maxRecDepth 20000 in
theorem vc35_p4 {X : Nat × (Nat → Int32)} {d : Nat} {M : q_M} {a1 a2 a3 : Int32} {K : Int32 → q_M → Prop} (h : ((9 ≤ a3) → (K a2 M)) ∧ ((¬ 9 ≤ a3) → (((((a1 >>> (a3 &&& 31)) &&& 1) = 0) → (q_Ex X d 35 4 [some (.ref 64), some (.int a1), some (.int a2), some (.int (a3 + 1))] [] M (q_ri K))) ∧ ((¬ ((a1 >>> (a3 &&& 31)) &&& 1) = 0) → (vp_in a3 9 ∧ (q_Ex X d 35 4 [some (.ref 64), some (.int a1), some (.int (a2 + (M 66 (Int32.toNatClampNeg a3)))), some (.int (a3 + 1))] [] M (q_ri K))))))) : q_Ex X d 35 4 [some (.ref 64), some (.int a1), some (.int a2), some (.int a3)] [] M (q_ri K) := by
  refine q_iload_n (pc := 4) k35_4 rfl ?_
  refine q_getsN (pc := 5) k35_5 (j := 0) (by decide) fs35_15 ?_
  refine q_rlen (pc := 8) (j := 0) (v := 9) k35_8 (by decide) rfl ?_
  refine q_icmp_ge (pc := 9) 35 k35_9 (by decide) (fun g1 => ?_) (fun g1 => ?_)
  · replace h := h.1 g1
    refine q_iload_n (pc := 35) k35_35 rfl ?_
    exact q_ireturn (pc := 36) k35_36 rfl ⟨_, rfl, h⟩
  · replace h := h.2 g1
    refine q_iload_n (pc := 12) k35_12 rfl ?_
    refine q_iload_n (pc := 13) k35_13 rfl ?_
    refine q_ishr (pc := 14) k35_14 ?_
    refine q_iconst (pc := 15) (v := 1) k35_15 (by decide) ?_
    refine q_iand (pc := 16) k35_16 ?_
    refine q_if_eq (pc := 17) 29 k35_17 (by decide) (fun g2 => ?_) (fun g2 => ?_)
    · replace h := h.1 g2
      refine q_iinc (pc := 29) (v := a3 + 1) [some (.ref 64), some (.int a1), some (.int a2), some (.int (a3 + 1))] k35_29 rfl rfl rfl (by decide) rfl ?_
      refine q_goto (pc := 32) 4 k35_32 (by decide) ?_
      exact h
    · replace h := h.2 g2
      refine q_iload_n (pc := 20) k35_20 rfl ?_
      refine q_aload_n (pc := 21) k35_21 rfl ?_
      refine q_getR (pc := 22) k35_22 fg35_18 rfl rfl ?_
      refine q_iload_n (pc := 25) k35_25 rfl ?_
      refine q_ialdv (pc := 26) (v := M 66 (Int32.toNatClampNeg a3)) k35_26 rfl h.1 rfl ?_
      replace h := h.2
      refine q_iadd (pc := 27) k35_27 ?_
      refine q_istore_n (pc := 28) [some (.ref 64), some (.int a1), some (.int (a2 + (M 66 (Int32.toNatClampNeg a3)))), some (.int a3)] k35_28 rfl (by decide) rfl ?_
      refine q_iinc (pc := 29) (v := a3 + 1) [some (.ref 64), some (.int a1), some (.int (a2 + (M 66 (Int32.toNatClampNeg a3)))), some (.int (a3 + 1))] k35_29 rfl rfl rfl (by decide) rfl ?_
      refine q_goto (pc := 32) 4 k35_32 (by decide) ?_
      exact h
set_option maxRecDepth 20000 in
theorem vc36 {X : Nat × (Nat → Int32)} {d : Nat} {M : q_M} {a1 : Int32} {K : Int32 → q_M → Prop} (h : q_Ex X d 36 5 [some (.ref 64), some (.int a1), some (.int (-9)), some (.int 0), none] [] M (q_ri K)) : q_Ci X d 36 [.ref 64, .int a1] M K := by
  show q_Ex X d 36 0 [some (.ref 64), some (.int a1), none, none, none] [] M (q_ri K)
  refine q_bipush (pc := 0) (v := (-9)) k36_0 (by decide) ?_
  refine q_istore_n (pc := 2) [some (.ref 64), some (.int a1), some (.int (-9)), none, none] k36_2 rfl (by decide) rfl ?_
  refine q_iconst (pc := 3) (v := 0) k36_3 (by decide) ?_
  refine q_istore_n (pc := 4) [some (.ref 64), some (.int a1), some (.int (-9)), some (.int 0), none] k36_4 rfl (by decide) rfl ?_
  exact h
set_option maxRecDepth 20000 in
theorem vc36_p5 {X : Nat × (Nat → Int32)} {d : Nat} {M : q_M} {a1 a2 a3 : Int32} {K : Int32 → q_M → Prop} (h : ((9 ≤ a3) → (K a2 M)) ∧ ((¬ 9 ≤ a3) → (((((a1 >>> (a3 &&& 31)) &&& 1) = 0) → (q_Ex X d 36 5 [some (.ref 64), some (.int a1), some (.int a2), some (.int (a3 + 1)), none] [] M (q_ri K))) ∧ ((¬ ((a1 >>> (a3 &&& 31)) &&& 1) = 0) → (vp_in a3 9 ∧ ((((M 66 (Int32.toNatClampNeg a3)) ≤ 0) → (q_Ex X d 36 5 [some (.ref 64), some (.int a1), some (.int a2), some (.int (a3 + 1)), none] [] M (q_ri K))) ∧ ((¬ (M 66 (Int32.toNatClampNeg a3)) ≤ 0) → (((a2 = (-9)) → (vp_in a3 9 ∧ (q_Ex X d 36 5 [some (.ref 64), some (.int a1), some (.int (M 67 (Int32.toNatClampNeg a3))), some (.int (a3 + 1)), none] [] M (q_ri K)))) ∧ ((¬ a2 = (-9)) → (vp_in a3 9 ∧ (((a2 ≤ (M 67 (Int32.toNatClampNeg a3))) → (q_Ex X d 36 5 [some (.ref 64), some (.int a1), some (.int a2), some (.int (a3 + 1)), none] [] M (q_ri K))) ∧ ((¬ a2 ≤ (M 67 (Int32.toNatClampNeg a3))) → (vp_in a3 9 ∧ (q_Ex X d 36 5 [some (.ref 64), some (.int a1), some (.int (M 67 (Int32.toNatClampNeg a3))), some (.int (a3 + 1)), none] [] M (q_ri K))))))))))))))) : q_Ex X d 36 5 [some (.ref 64), some (.int a1), some (.int a2), some (.int a3), none] [] M (q_ri K) := by
  refine q_iload_n (pc := 5) k36_5 rfl ?_
  refine q_getsN (pc := 6) k36_6 (j := 0) (by decide) fs36_15 ?_
  refine q_rlen (pc := 9) (j := 0) (v := 9) k36_9 (by decide) rfl ?_
  refine q_icmp_ge (pc := 10) 71 k36_10 (by decide) (fun g1 => ?_) (fun g1 => ?_)
  · replace h := h.1 g1
    refine q_iload_n (pc := 71) k36_71 rfl ?_
    exact q_ireturn (pc := 72) k36_72 rfl ⟨_, rfl, h⟩
  · replace h := h.2 g1
    refine q_iload_n (pc := 13) k36_13 rfl ?_
    refine q_iload_n (pc := 14) k36_14 rfl ?_
    refine q_ishr (pc := 15) k36_15 ?_
    refine q_iconst (pc := 16) (v := 1) k36_16 (by decide) ?_
    refine q_iand (pc := 17) k36_17 ?_
    refine q_if_eq (pc := 18) 34 k36_18 (by decide) (fun g2 => ?_) (fun g2 => ?_)
    · replace h := h.1 g2
      refine q_iconst (pc := 34) (v := 0) k36_34 (by decide) ?_
      refine q_istore (pc := 35) [some (.ref 64), some (.int a1), some (.int a2), some (.int a3), some (.int 0)] k36_35 rfl (by decide) rfl ?_
      refine q_iload (pc := 37) k36_37 rfl ?_
      refine q_if_eq (pc := 39) 65 k36_39 (by decide) (fun _ => ?_) (fun g => absurd g (by decide))
      refine q_iinc (pc := 65) (v := a3 + 1) [some (.ref 64), some (.int a1), some (.int a2), some (.int (a3 + 1)), some (.int 0)] k36_65 rfl rfl rfl (by decide) rfl ?_
      refine q_goto (pc := 68) 5 k36_68 (by decide) ?_
      exact q_forget [some (.ref 64), some (.int a1), some (.int a2), some (.int (a3 + 1)), none] (q_subOk (And.intro rfl (And.intro rfl (And.intro rfl (And.intro rfl (trivial)))))) h
    · replace h := h.2 g2
      refine q_aload_n (pc := 21) k36_21 rfl ?_
      refine q_getR (pc := 22) k36_22 fg36_18 rfl rfl ?_
      refine q_iload_n (pc := 25) k36_25 rfl ?_
      refine q_ialdv (pc := 26) (v := M 66 (Int32.toNatClampNeg a3)) k36_26 rfl h.1 rfl ?_
      replace h := h.2
      refine q_if_le (pc := 27) 34 k36_27 (by decide) (fun g3 => ?_) (fun g3 => ?_)
      · replace h := h.1 g3
        refine q_iconst (pc := 34) (v := 0) k36_34 (by decide) ?_
        refine q_istore (pc := 35) [some (.ref 64), some (.int a1), some (.int a2), some (.int a3), some (.int 0)] k36_35 rfl (by decide) rfl ?_
        refine q_iload (pc := 37) k36_37 rfl ?_
        refine q_if_eq (pc := 39) 65 k36_39 (by decide) (fun _ => ?_) (fun g => absurd g (by decide))
        refine q_iinc (pc := 65) (v := a3 + 1) [some (.ref 64), some (.int a1), some (.int a2), some (.int (a3 + 1)), some (.int 0)] k36_65 rfl rfl rfl (by decide) rfl ?_
        refine q_goto (pc := 68) 5 k36_68 (by decide) ?_
        exact q_forget [some (.ref 64), some (.int a1), some (.int a2), some (.int (a3 + 1)), none] (q_subOk (And.intro rfl (And.intro rfl (And.intro rfl (And.intro rfl (trivial)))))) h
      · replace h := h.2 g3
        refine q_iconst (pc := 30) (v := 1) k36_30 (by decide) ?_
        refine q_goto (pc := 31) 35 k36_31 (by decide) ?_
        refine q_istore (pc := 35) [some (.ref 64), some (.int a1), some (.int a2), some (.int a3), some (.int 1)] k36_35 rfl (by decide) rfl ?_
        refine q_iload (pc := 37) k36_37 rfl ?_
        refine q_if_eq (pc := 39) 65 k36_39 (by decide) (fun g => absurd g (by decide)) (fun _ => ?_)
        refine q_iload_n (pc := 42) k36_42 rfl ?_
        refine q_bipush (pc := 43) (v := (-9)) k36_43 (by decide) ?_
        refine q_icmp_eq (pc := 45) 58 k36_45 (by decide) (fun g4 => ?_) (fun g4 => ?_)
        · replace h := h.1 g4
          refine q_aload_n (pc := 58) k36_58 rfl ?_
          refine q_getR (pc := 59) k36_59 fg36_21 rfl rfl ?_
          refine q_iload_n (pc := 62) k36_62 rfl ?_
          refine q_ialdv (pc := 63) (v := M 67 (Int32.toNatClampNeg a3)) k36_63 rfl h.1 rfl ?_
          replace h := h.2
          refine q_istore_n (pc := 64) [some (.ref 64), some (.int a1), some (.int (M 67 (Int32.toNatClampNeg a3))), some (.int a3), some (.int 1)] k36_64 rfl (by decide) rfl ?_
          refine q_iinc (pc := 65) (v := a3 + 1) [some (.ref 64), some (.int a1), some (.int (M 67 (Int32.toNatClampNeg a3))), some (.int (a3 + 1)), some (.int 1)] k36_65 rfl rfl rfl (by decide) rfl ?_
          refine q_goto (pc := 68) 5 k36_68 (by decide) ?_
          exact q_forget [some (.ref 64), some (.int a1), some (.int (M 67 (Int32.toNatClampNeg a3))), some (.int (a3 + 1)), none] (q_subOk (And.intro rfl (And.intro rfl (And.intro rfl (And.intro rfl (trivial)))))) h
        · replace h := h.2 g4
          refine q_aload_n (pc := 48) k36_48 rfl ?_
          refine q_getR (pc := 49) k36_49 fg36_21 rfl rfl ?_
          refine q_iload_n (pc := 52) k36_52 rfl ?_
          refine q_ialdv (pc := 53) (v := M 67 (Int32.toNatClampNeg a3)) k36_53 rfl h.1 rfl ?_
          replace h := h.2
          refine q_iload_n (pc := 54) k36_54 rfl ?_
          refine q_icmp_ge (pc := 55) 65 k36_55 (by decide) (fun g5 => ?_) (fun g5 => ?_)
          · replace h := h.1 g5
            refine q_iinc (pc := 65) (v := a3 + 1) [some (.ref 64), some (.int a1), some (.int a2), some (.int (a3 + 1)), some (.int 1)] k36_65 rfl rfl rfl (by decide) rfl ?_
            refine q_goto (pc := 68) 5 k36_68 (by decide) ?_
            exact q_forget [some (.ref 64), some (.int a1), some (.int a2), some (.int (a3 + 1)), none] (q_subOk (And.intro rfl (And.intro rfl (And.intro rfl (And.intro rfl (trivial)))))) h
          · replace h := h.2 g5
            refine q_aload_n (pc := 58) k36_58 rfl ?_
            refine q_getR (pc := 59) k36_59 fg36_21 rfl rfl ?_
            refine q_iload_n (pc := 62) k36_62 rfl ?_
            refine q_ialdv (pc := 63) (v := M 67 (Int32.toNatClampNeg a3)) k36_63 rfl h.1 rfl ?_
            replace h := h.2
            refine q_istore_n (pc := 64) [some (.ref 64), some (.int a1), some (.int (M 67 (Int32.toNatClampNeg a3))), some (.int a3), some (.int 1)] k36_64 rfl (by decide) rfl ?_
            refine q_iinc (pc := 65) (v := a3 + 1) [some (.ref 64), some (.int a1), some (.int (M 67 (Int32.toNatClampNeg a3))), some (.int (a3 + 1)), some (.int 1)] k36_65 rfl rfl rfl (by decide) rfl ?_
            refine q_goto (pc := 68) 5 k36_68 (by decide) ?_
            exact q_forget [some (.ref 64), some (.int a1), some (.int (M 67 (Int32.toNatClampNeg a3))), some (.int (a3 + 1)), none] (q_subOk (And.intro rfl (And.intro rfl (And.intro rfl (And.intro rfl (trivial)))))) h
set_option maxRecDepth 20000 in
theorem vc37 {X : Nat × (Nat → Int32)} {d : Nat} {M : q_M} {a1 a2 : Int32} {K : Int32 → q_M → Prop} (h : q_Ex X d 37 5 [some (.ref 64), some (.int a1), some (.int a2), some (.int 0), some (.int 0)] [] M (q_ri K)) : q_Ci X d 37 [.ref 64, .int a1, .int a2] M K := by
  show q_Ex X d 37 0 [some (.ref 64), some (.int a1), some (.int a2), none, none] [] M (q_ri K)
  refine q_iconst (pc := 0) (v := 0) k37_0 (by decide) ?_
  refine q_istore_n (pc := 1) [some (.ref 64), some (.int a1), some (.int a2), some (.int 0), none] k37_1 rfl (by decide) rfl ?_
  refine q_iconst (pc := 2) (v := 0) k37_2 (by decide) ?_
  refine q_istore (pc := 3) [some (.ref 64), some (.int a1), some (.int a2), some (.int 0), some (.int 0)] k37_3 rfl (by decide) rfl ?_
  exact h
set_option maxRecDepth 20000 in
theorem vc37_p5 {X : Nat × (Nat → Int32)} {d : Nat} (hd : 0 < d) {M : q_M} {a1 a2 a3 a4 : Int32} {K : Int32 → q_M → Prop} (h : ((9 ≤ a4) → (K a3 M)) ∧ ((¬ 9 ≤ a4) → (q_Ci X (d - 1) 23 [.ref 11, .int a1] M (fun r3 M2 => ((r3 = 0) → (K a3 M2)) ∧ ((¬ r3 = 0) → (((((a2 >>> (a4 &&& 31)) &&& 1) = 0) → (q_Ex X d 37 5 [some (.ref 64), some (.int a1), some (.int a2), some (.int a3), some (.int (a4 + 1))] [] M2 (q_ri K))) ∧ ((¬ ((a2 >>> (a4 &&& 31)) &&& 1) = 0) → (vp_in a4 9 ∧ (vp_in a1 30 ∧ (q_Ex X d 37 5 [some (.ref 64), some (.int a1), some (.int a2), some (.int (a3 + (M2 (69 + Int32.toNatClampNeg a4) (Int32.toNatClampNeg a1)))), some (.int (a4 + 1))] [] M2 (q_ri K))))))))))) : q_Ex X d 37 5 [some (.ref 64), some (.int a1), some (.int a2), some (.int a3), some (.int a4)] [] M (q_ri K) := by
  refine q_iload (pc := 5) k37_5 rfl ?_
  refine q_getsN (pc := 7) k37_7 (j := 0) (by decide) fs37_15 ?_
  refine q_rlen (pc := 10) (j := 0) (v := 9) k37_10 (by decide) rfl ?_
  refine q_icmp_ge (pc := 11) 52 k37_11 (by decide) (fun g1 => ?_) (fun g1 => ?_)
  · replace h := h.1 g1
    refine q_iload_n (pc := 52) k37_52 rfl ?_
    exact q_ireturn (pc := 53) k37_53 rfl ⟨_, rfl, h⟩
  · replace h := h.2 g1
    refine q_aload_n (pc := 14) k37_14 rfl ?_
    refine q_getR (pc := 15) k37_15 fg37_32 rfl rfl ?_
    refine q_iload_n (pc := 18) k37_18 rfl ?_
    refine q_invV (pc := 19) (As := [.int a1]) (st := []) k37_19 lm37_108 ov23 rfl rfl rfl (q_cat rfl) (Nat.le_of_ble_eq_true rfl) hd h ?_
    rintro v M2 ⟨r3, rfl, h⟩
    show q_Ex X d 37 (19 + 3) [some (.ref 64), some (.int a1), some (.int a2), some (.int a3), some (.int a4)] [.int r3] M2 _
    refine q_if_eq (pc := 22) 52 k37_22 (by decide) (fun g4 => ?_) (fun g4 => ?_)
    · replace h := h.1 g4
      refine q_iload_n (pc := 52) k37_52 rfl ?_
      exact q_ireturn (pc := 53) k37_53 rfl ⟨_, rfl, h⟩
    · replace h := h.2 g4
      refine q_iload_n (pc := 25) k37_25 rfl ?_
      refine q_iload (pc := 26) k37_26 rfl ?_
      refine q_ishr (pc := 28) k37_28 ?_
      refine q_iconst (pc := 29) (v := 1) k37_29 (by decide) ?_
      refine q_iand (pc := 30) k37_30 ?_
      refine q_if_eq (pc := 31) 46 k37_31 (by decide) (fun g5 => ?_) (fun g5 => ?_)
      · replace h := h.1 g5
        refine q_iinc (pc := 46) (v := a4 + 1) [some (.ref 64), some (.int a1), some (.int a2), some (.int a3), some (.int (a4 + 1))] k37_46 rfl rfl rfl (by decide) rfl ?_
        refine q_goto (pc := 49) 5 k37_49 (by decide) ?_
        exact h
      · replace h := h.2 g5
        refine q_iload_n (pc := 34) k37_34 rfl ?_
        refine q_aload_n (pc := 35) k37_35 rfl ?_
        refine q_getR (pc := 36) k37_36 fg37_26 rfl rfl ?_
        refine q_iload (pc := 39) k37_39 rfl ?_
        have w6 := h.1
        replace h := h.2
        refine q_aald (pc := 41) k37_41 rfl w6 ?_
        refine q_iload_n (pc := 42) k37_42 rfl ?_
        refine q_ialdv (pc := 43) (v := M2 (69 + Int32.toNatClampNeg a4) (Int32.toNatClampNeg a1)) k37_43 (rw68 w6) h.1 rfl ?_
        replace h := h.2
        refine q_iadd (pc := 44) k37_44 ?_
        refine q_istore_n (pc := 45) [some (.ref 64), some (.int a1), some (.int a2), some (.int (a3 + (M2 (69 + Int32.toNatClampNeg a4) (Int32.toNatClampNeg a1)))), some (.int a4)] k37_45 rfl (by decide) rfl ?_
        refine q_iinc (pc := 46) (v := a4 + 1) [some (.ref 64), some (.int a1), some (.int a2), some (.int (a3 + (M2 (69 + Int32.toNatClampNeg a4) (Int32.toNatClampNeg a1)))), some (.int (a4 + 1))] k37_46 rfl rfl rfl (by decide) rfl ?_
        refine q_goto (pc := 49) 5 k37_49 (by decide) ?_
        exact h
set_option maxRecDepth 20000 in
theorem vc38 {X : Nat × (Nat → Int32)} {d : Nat} {M : q_M} {a1 a2 : Int32} {K : Int32 → q_M → Prop} (h : q_Ex X d 38 5 [some (.ref 64), some (.int a1), some (.int a2), some (.int 0), some (.int 0)] [] M (q_ri K)) : q_Ci X d 38 [.ref 64, .int a1, .int a2] M K := by
  show q_Ex X d 38 0 [some (.ref 64), some (.int a1), some (.int a2), none, none] [] M (q_ri K)
  refine q_iconst (pc := 0) (v := 0) k38_0 (by decide) ?_
  refine q_istore_n (pc := 1) [some (.ref 64), some (.int a1), some (.int a2), some (.int 0), none] k38_1 rfl (by decide) rfl ?_
  refine q_iconst (pc := 2) (v := 0) k38_2 (by decide) ?_
  refine q_istore (pc := 3) [some (.ref 64), some (.int a1), some (.int a2), some (.int 0), some (.int 0)] k38_3 rfl (by decide) rfl ?_
  exact h
set_option maxRecDepth 20000 in
theorem vc38_p5 {X : Nat × (Nat → Int32)} {d : Nat} (hd : 0 < d) {M : q_M} {a1 a2 a3 a4 : Int32} {K : Int32 → q_M → Prop} (h : ((9 ≤ a4) → (K a3 M)) ∧ ((¬ 9 ≤ a4) → (q_Ci X (d - 1) 23 [.ref 11, .int a1] M (fun r3 M2 => ((r3 = 0) → (K a3 M2)) ∧ ((¬ r3 = 0) → (((((a2 >>> (a4 &&& 31)) &&& 1) = 0) → (q_Ex X d 38 5 [some (.ref 64), some (.int a1), some (.int a2), some (.int a3), some (.int (a4 + 1))] [] M2 (q_ri K))) ∧ ((¬ ((a2 >>> (a4 &&& 31)) &&& 1) = 0) → (vp_in a4 9 ∧ (vp_in a1 30 ∧ (q_Ex X d 38 5 [some (.ref 64), some (.int a1), some (.int a2), some (.int (a3 ||| (M2 (79 + Int32.toNatClampNeg a4) (Int32.toNatClampNeg a1)))), some (.int (a4 + 1))] [] M2 (q_ri K))))))))))) : q_Ex X d 38 5 [some (.ref 64), some (.int a1), some (.int a2), some (.int a3), some (.int a4)] [] M (q_ri K) := by
  refine q_iload (pc := 5) k38_5 rfl ?_
  refine q_getsN (pc := 7) k38_7 (j := 0) (by decide) fs38_15 ?_
  refine q_rlen (pc := 10) (j := 0) (v := 9) k38_10 (by decide) rfl ?_
  refine q_icmp_ge (pc := 11) 52 k38_11 (by decide) (fun g1 => ?_) (fun g1 => ?_)
  · replace h := h.1 g1
    refine q_iload_n (pc := 52) k38_52 rfl ?_
    exact q_ireturn (pc := 53) k38_53 rfl ⟨_, rfl, h⟩
  · replace h := h.2 g1
    refine q_aload_n (pc := 14) k38_14 rfl ?_
    refine q_getR (pc := 15) k38_15 fg38_32 rfl rfl ?_
    refine q_iload_n (pc := 18) k38_18 rfl ?_
    refine q_invV (pc := 19) (As := [.int a1]) (st := []) k38_19 lm38_108 ov23 rfl rfl rfl (q_cat rfl) (Nat.le_of_ble_eq_true rfl) hd h ?_
    rintro v M2 ⟨r3, rfl, h⟩
    show q_Ex X d 38 (19 + 3) [some (.ref 64), some (.int a1), some (.int a2), some (.int a3), some (.int a4)] [.int r3] M2 _
    refine q_if_eq (pc := 22) 52 k38_22 (by decide) (fun g4 => ?_) (fun g4 => ?_)
    · replace h := h.1 g4
      refine q_iload_n (pc := 52) k38_52 rfl ?_
      exact q_ireturn (pc := 53) k38_53 rfl ⟨_, rfl, h⟩
    · replace h := h.2 g4
      refine q_iload_n (pc := 25) k38_25 rfl ?_
      refine q_iload (pc := 26) k38_26 rfl ?_
      refine q_ishr (pc := 28) k38_28 ?_
      refine q_iconst (pc := 29) (v := 1) k38_29 (by decide) ?_
      refine q_iand (pc := 30) k38_30 ?_
      refine q_if_eq (pc := 31) 46 k38_31 (by decide) (fun g5 => ?_) (fun g5 => ?_)
      · replace h := h.1 g5
        refine q_iinc (pc := 46) (v := a4 + 1) [some (.ref 64), some (.int a1), some (.int a2), some (.int a3), some (.int (a4 + 1))] k38_46 rfl rfl rfl (by decide) rfl ?_
        refine q_goto (pc := 49) 5 k38_49 (by decide) ?_
        exact h
      · replace h := h.2 g5
        refine q_iload_n (pc := 34) k38_34 rfl ?_
        refine q_aload_n (pc := 35) k38_35 rfl ?_
        refine q_getR (pc := 36) k38_36 fg38_29 rfl rfl ?_
        refine q_iload (pc := 39) k38_39 rfl ?_
        have w6 := h.1
        replace h := h.2
        refine q_aald (pc := 41) k38_41 rfl w6 ?_
        refine q_iload_n (pc := 42) k38_42 rfl ?_
        refine q_ialdv (pc := 43) (v := M2 (79 + Int32.toNatClampNeg a4) (Int32.toNatClampNeg a1)) k38_43 (rw78 w6) h.1 rfl ?_
        replace h := h.2
        refine q_ior (pc := 44) k38_44 ?_
        refine q_istore_n (pc := 45) [some (.ref 64), some (.int a1), some (.int a2), some (.int (a3 ||| (M2 (79 + Int32.toNatClampNeg a4) (Int32.toNatClampNeg a1)))), some (.int a4)] k38_45 rfl (by decide) rfl ?_
        refine q_iinc (pc := 46) (v := a4 + 1) [some (.ref 64), some (.int a1), some (.int a2), some (.int (a3 ||| (M2 (79 + Int32.toNatClampNeg a4) (Int32.toNatClampNeg a1)))), some (.int (a4 + 1))] k38_46 rfl rfl rfl (by decide) rfl ?_
        refine q_goto (pc := 49) 5 k38_49 (by decide) ?_
        exact h
set_option maxRecDepth 20000 in
theorem vc41_44 {X : Nat × (Nat → Int32)} {d : Nat} (hd : 0 < d) {M : q_M} {a1 : Int32} {K : q_M → Prop} (h : q_Ex X d 41 17 [some (.ref 44), none, some (.int 0)] [] (q_set M 44 1 (if (M 11 4) < a1 then (M 11 4) else a1)) (q_rn K)) : q_Cv X d 41 [.ref 44, .int a1] M K := by
  show q_Ex X d 41 0 [some (.ref 44), some (.int a1), none] [] M (q_rn K)
  refine q_aload_n (pc := 0) k41_0 rfl ?_
  refine q_iload_n (pc := 1) k41_1 rfl ?_
  refine q_aload_n (pc := 2) k41_2 rfl ?_
  refine q_getR (pc := 3) k41_3 fg41_23 rfl rfl ?_
  refine q_getIv (pc := 6) (v := M 11 4) k41_6 fg41_27 rfl rfl rfl ?_
  refine q_mmin (pc := 9) k41_9 lx41_33 oc_min (Nat.le_of_ble_eq_true rfl) ?_
  refine q_putI (pc := 12) k41_12 fp41_39 rfl rfl ?_
  refine q_iconst (pc := 15) (v := 0) k41_15 (by decide) ?_
  refine q_istore_n (pc := 16) [some (.ref 44), some (.int a1), some (.int 0)] k41_16 rfl (by decide) rfl ?_
  exact q_forget [some (.ref 44), none, some (.int 0)] (q_subOk (And.intro rfl (And.intro rfl (trivial)))) h
set_option maxRecDepth 20000 in
theorem vc41_44_p17 {X : Nat × (Nat → Int32)} {d : Nat} (hd : 0 < d) {M : q_M} {a2 : Int32} {K : q_M → Prop} (h : (((M 44 1) ≤ a2) → (K M)) ∧ ((¬ (M 44 1) ≤ a2) → (vp_in a2 3 ∧ (q_Ci X (d - 1) 25 [.ref 11, .int a2] (q_set M 45 (Int32.toNatClampNeg a2) 0) (fun r3 M2 => q_Cv X (d - 1) 42 [.ref 44, .int a2, .int r3, .int 0, .int 0] M2 (fun M4 => q_Ex X d 41 17 [some (.ref 44), none, some (.int (a2 + 1))] [] M4 (q_rn K))))))) : q_Ex X d 41 17 [some (.ref 44), none, some (.int a2)] [] M (q_rn K) := by
  refine q_iload_n (pc := 17) k41_17 rfl ?_
  refine q_aload_n (pc := 18) k41_18 rfl ?_
  refine q_getIv (pc := 19) (v := M 44 1) k41_19 fg41_39 rfl rfl rfl ?_
  refine q_icmp_ge (pc := 22) 53 k41_22 (by decide) (fun g1 => ?_) (fun g1 => ?_)
  · replace h := h.1 g1
    exact q_return (pc := 53) k41_53 rfl ⟨rfl, h⟩
  · replace h := h.2 g1
    refine q_aload_n (pc := 25) k41_25 rfl ?_
    refine q_getR (pc := 26) k41_26 fg41_9 rfl rfl ?_
    refine q_iload_n (pc := 29) k41_29 rfl ?_
    refine q_iconst (pc := 30) (v := 0) k41_30 (by decide) ?_
    refine q_iastv (pc := 31) (k := (Int32.toNatClampNeg a2)) k41_31 rfl h.1 rfl ?_
    replace h := h.2
    refine q_aload_n (pc := 32) k41_32 rfl ?_
    refine q_iload_n (pc := 33) k41_33 rfl ?_
    refine q_aload_n (pc := 34) k41_34 rfl ?_
    refine q_getR (pc := 35) k41_35 fg41_23 rfl rfl ?_
    refine q_iload_n (pc := 38) k41_38 rfl ?_
    refine q_invV (pc := 39) (As := [.int a2]) (st := [.int a2, .ref 44]) k41_39 lm41_40 ov25 rfl rfl rfl (q_cat rfl) (Nat.le_of_ble_eq_true rfl) hd h ?_
    rintro v M2 ⟨r3, rfl, h⟩
    show q_Ex X d 41 (39 + 3) [some (.ref 44), none, some (.int a2)] [.int r3, .int a2, .ref 44] M2 _
    refine q_iconst (pc := 42) (v := 0) k41_42 (by decide) ?_
    refine q_iconst (pc := 43) (v := 0) k41_43 (by decide) ?_
    refine q_invV (pc := 44) (As := [.int a2, .int r3, .int 0, .int 0]) (st := []) k41_44 lm41_44 ov42 rfl rfl rfl (q_cat rfl) (Nat.le_of_ble_eq_true rfl) hd h ?_
    rintro v M4 ⟨rfl, h⟩
    show q_Ex X d 41 (44 + 3) [some (.ref 44), none, some (.int a2)] [] M4 _
    refine q_iinc (pc := 47) (v := a2 + 1) [some (.ref 44), none, some (.int (a2 + 1))] k41_47 rfl rfl rfl (by decide) rfl ?_
    refine q_goto (pc := 50) 17 k41_50 (by decide) ?_
    exact h
set_option maxRecDepth 20000 in
theorem vc42_44 {X : Nat × (Nat → Int32)} {d : Nat} {M : q_M} {a1 a2 a3 a4 : Int32} {K : q_M → Prop} (h : ((a2 < 0) → (K M)) ∧ ((¬ a2 < 0) → (((a4 ≤ 10) → (q_Ex X d 42 22 [some (.ref 44), some (.int a1), some (.int a2), none, some (.int a4), some (.int (a3 ||| ((1 : Int32) <<< (a2 &&& 31)))), some (.int 0), none, none] [] M (q_rn K))) ∧ ((¬ a4 ≤ 10) → (K M))))) : q_Cv X d 42 [.ref 44, .int a1, .int a2, .int a3, .int a4] M K := by
  show q_Ex X d 42 0 [some (.ref 44), some (.int a1), some (.int a2), some (.int a3), some (.int a4), none, none, none, none] [] M (q_rn K)
  refine q_iload_n (pc := 0) k42_0 rfl ?_
  refine q_if_lt (pc := 1) 11 k42_1 (by decide) (fun g1 => ?_) (fun g1 => ?_)
  · replace h := h.1 g1
    exact q_return (pc := 11) k42_11 rfl ⟨rfl, h⟩
  · replace h := h.2 g1
    refine q_iload (pc := 4) k42_4 rfl ?_
    refine q_bipush (pc := 6) (v := 10) k42_6 (by decide) ?_
    refine q_icmp_le (pc := 8) 12 k42_8 (by decide) (fun g2 => ?_) (fun g2 => ?_)
    · replace h := h.1 g2
      refine q_iload_n (pc := 12) k42_12 rfl ?_
      refine q_iconst (pc := 13) (v := 1) k42_13 (by decide) ?_
      refine q_iload_n (pc := 14) k42_14 rfl ?_
      refine q_ishl (pc := 15) k42_15 ?_
      refine q_ior (pc := 16) k42_16 ?_
      refine q_istore (pc := 17) [some (.ref 44), some (.int a1), some (.int a2), some (.int a3), some (.int a4), some (.int (a3 ||| ((1 : Int32) <<< (a2 &&& 31)))), none, none, none] k42_17 rfl (by decide) rfl ?_
      refine q_iconst (pc := 19) (v := 0) k42_19 (by decide) ?_
      refine q_istore (pc := 20) [some (.ref 44), some (.int a1), some (.int a2), some (.int a3), some (.int a4), some (.int (a3 ||| ((1 : Int32) <<< (a2 &&& 31)))), some (.int 0), none, none] k42_20 rfl (by decide) rfl ?_
      exact q_forget [some (.ref 44), some (.int a1), some (.int a2), none, some (.int a4), some (.int (a3 ||| ((1 : Int32) <<< (a2 &&& 31)))), some (.int 0), none, none] (q_subOk (And.intro rfl (And.intro rfl (And.intro rfl (And.intro rfl (And.intro rfl (And.intro rfl (trivial)))))))) h
    · replace h := h.2 g2
      exact q_return (pc := 11) k42_11 rfl ⟨rfl, h⟩
set_option maxRecDepth 20000 in
theorem vc42_44_p22 {X : Nat × (Nat → Int32)} {d : Nat} (hd : 0 < d) {M : q_M} {a1 a2 a4 a5 a6 : Int32} {K : q_M → Prop} (h : ((1 < a6) → (K M)) ∧ ((¬ 1 < a6) → (q_Ci X (d - 1) 27 [.ref 11, .int a2, .int a6] M (fun r3 M2 => ((r3 < 0) → (q_Ex X d 42 22 [some (.ref 44), some (.int a1), some (.int a2), none, some (.int a4), some (.int a5), some (.int (a6 + 1)), none, none] [] M2 (q_rn K))) ∧ ((¬ r3 < 0) → (vp_in r3 30 ∧ ((((M2 14 (Int32.toNatClampNeg r3)) < 0) → (q_Cv X (d - 1) 42 [.ref 44, .int a1, .int r3, .int a5, .int (a4 + 1)] M2 (fun M6 => q_Ex X d 42 22 [some (.ref 44), some (.int a1), some (.int a2), none, some (.int a4), some (.int a5), some (.int (a6 + 1)), none, none] [] M6 (q_rn K)))) ∧ ((¬ (M2 14 (Int32.toNatClampNeg r3)) < 0) → (vp_in r3 30 ∧ ((((M2 14 (Int32.toNatClampNeg r3)) < (M2 44 1)) → (vp_in r3 30 ∧ (((¬ (M2 12 (Int32.toNatClampNeg r3)) = 3) → (q_Ex X d 42 22 [some (.ref 44), some (.int a1), some (.int a2), none, some (.int a4), some (.int a5), some (.int (a6 + 1)), none, none] [] M2 (q_rn K))) ∧ (((M2 12 (Int32.toNatClampNeg r3)) = 3) → (vp_in r3 30 ∧ (q_Cv X (d - 1) 43 [.ref 44, .int a1, .int (a5 ||| ((1 : Int32) <<< (r3 &&& 31))), .int (M2 14 (Int32.toNatClampNeg r3))] M2 (fun M9 => q_Ex X d 42 22 [some (.ref 44), some (.int a1), some (.int a2), none, some (.int a4), some (.int a5), some (.int (a6 + 1)), none, none] [] M9 (q_rn K)))))))) ∧ ((¬ (M2 14 (Int32.toNatClampNeg r3)) < (M2 44 1)) → (q_Cv X (d - 1) 42 [.ref 44, .int a1, .int r3, .int a5, .int (a4 + 1)] M2 (fun M10 => q_Ex X d 42 22 [some (.ref 44), some (.int a1), some (.int a2), none, some (.int a4), some (.int a5), some (.int (a6 + 1)), none, none] [] M10 (q_rn K)))))))))))))) : q_Ex X d 42 22 [some (.ref 44), some (.int a1), some (.int a2), none, some (.int a4), some (.int a5), some (.int a6), none, none] [] M (q_rn K) := by
  refine q_iload (pc := 22) k42_22 rfl ?_
  refine q_iconst (pc := 24) (v := 1) k42_24 (by decide) ?_
  refine q_icmp_gt (pc := 25) 145 k42_25 (by decide) (fun g1 => ?_) (fun g1 => ?_)
  · replace h := h.1 g1
    exact q_return (pc := 145) k42_145 rfl ⟨rfl, h⟩
  · replace h := h.2 g1
    refine q_aload_n (pc := 28) k42_28 rfl ?_
    refine q_getR (pc := 29) k42_29 fg42_23 rfl rfl ?_
    refine q_iload_n (pc := 32) k42_32 rfl ?_
    refine q_iload (pc := 33) k42_33 rfl ?_
    refine q_invV (pc := 35) (As := [.int a2, .int a6]) (st := []) k42_35 lm42_48 ov27 rfl rfl rfl (q_cat rfl) (Nat.le_of_ble_eq_true rfl) hd h ?_
    rintro v M2 ⟨r3, rfl, h⟩
    show q_Ex X d 42 (35 + 3) [some (.ref 44), some (.int a1), some (.int a2), none, some (.int a4), some (.int a5), some (.int a6), none, none] [.int r3] M2 _
    refine q_istore (pc := 38) [some (.ref 44), some (.int a1), some (.int a2), none, some (.int a4), some (.int a5), some (.int a6), some (.int r3), none] k42_38 rfl (by decide) rfl ?_
    refine q_iload (pc := 40) k42_40 rfl ?_
    refine q_if_lt (pc := 42) 139 k42_42 (by decide) (fun g4 => ?_) (fun g4 => ?_)
    · replace h := h.1 g4
      refine q_iinc (pc := 139) (v := a6 + 1) [some (.ref 44), some (.int a1), some (.int a2), none, some (.int a4), some (.int a5), some (.int (a6 + 1)), some (.int r3), none] k42_139 rfl rfl rfl (by decide) rfl ?_
      refine q_goto (pc := 142) 22 k42_142 (by decide) ?_
      exact q_forget [some (.ref 44), some (.int a1), some (.int a2), none, some (.int a4), some (.int a5), some (.int (a6 + 1)), none, none] (q_subOk (And.intro rfl (And.intro rfl (And.intro rfl (And.intro rfl (And.intro rfl (And.intro rfl (trivial)))))))) h
    · replace h := h.2 g4
      refine q_aload_n (pc := 45) k42_45 rfl ?_
      refine q_getR (pc := 46) k42_46 fg42_23 rfl rfl ?_
      refine q_getR (pc := 49) k42_49 fg42_51 rfl rfl ?_
      refine q_iload (pc := 52) k42_52 rfl ?_
      refine q_ialdv (pc := 54) (v := M2 14 (Int32.toNatClampNeg r3)) k42_54 rfl h.1 rfl ?_
      replace h := h.2
      refine q_if_lt (pc := 55) 75 k42_55 (by decide) (fun g5 => ?_) (fun g5 => ?_)
      · replace h := h.1 g5
        refine q_iconst (pc := 75) (v := 1) k42_75 (by decide) ?_
        refine q_goto (pc := 76) 80 k42_76 (by decide) ?_
        refine q_istore (pc := 80) [some (.ref 44), some (.int a1), some (.int a2), none, some (.int a4), some (.int a5), some (.int a6), some (.int r3), some (.int 1)] k42_80 rfl (by decide) rfl ?_
        refine q_iload (pc := 82) k42_82 rfl ?_
        refine q_if_eq (pc := 84) 103 k42_84 (by decide) (fun g => absurd g (by decide)) (fun _ => ?_)
        refine q_aload_n (pc := 87) k42_87 rfl ?_
        refine q_iload_n (pc := 88) k42_88 rfl ?_
        refine q_iload (pc := 89) k42_89 rfl ?_
        refine q_iload (pc := 91) k42_91 rfl ?_
        refine q_iload (pc := 93) k42_93 rfl ?_
        refine q_iconst (pc := 95) (v := 1) k42_95 (by decide) ?_
        refine q_iadd (pc := 96) k42_96 ?_
        refine q_invV (pc := 97) (As := [.int a1, .int r3, .int a5, .int (a4 + 1)]) (st := []) k42_97 lm42_44 ov42 rfl rfl rfl (q_cat rfl) (Nat.le_of_ble_eq_true rfl) hd h ?_
        rintro v M6 ⟨rfl, h⟩
        show q_Ex X d 42 (97 + 3) [some (.ref 44), some (.int a1), some (.int a2), none, some (.int a4), some (.int a5), some (.int a6), some (.int r3), some (.int 1)] [] M6 _
        refine q_goto (pc := 100) 139 k42_100 (by decide) ?_
        refine q_iinc (pc := 139) (v := a6 + 1) [some (.ref 44), some (.int a1), some (.int a2), none, some (.int a4), some (.int a5), some (.int (a6 + 1)), some (.int r3), some (.int 1)] k42_139 rfl rfl rfl (by decide) rfl ?_
        refine q_goto (pc := 142) 22 k42_142 (by decide) ?_
        exact q_forget [some (.ref 44), some (.int a1), some (.int a2), none, some (.int a4), some (.int a5), some (.int (a6 + 1)), none, none] (q_subOk (And.intro rfl (And.intro rfl (And.intro rfl (And.intro rfl (And.intro rfl (And.intro rfl (trivial)))))))) h
      · replace h := h.2 g5
        refine q_aload_n (pc := 58) k42_58 rfl ?_
        refine q_getR (pc := 59) k42_59 fg42_23 rfl rfl ?_
        refine q_getR (pc := 62) k42_62 fg42_51 rfl rfl ?_
        refine q_iload (pc := 65) k42_65 rfl ?_
        refine q_ialdv (pc := 67) (v := M2 14 (Int32.toNatClampNeg r3)) k42_67 rfl h.1 rfl ?_
        replace h := h.2
        refine q_aload_n (pc := 68) k42_68 rfl ?_
        refine q_getIv (pc := 69) (v := M2 44 1) k42_69 fg42_39 rfl rfl rfl ?_
        refine q_icmp_lt (pc := 72) 79 k42_72 (by decide) (fun g7 => ?_) (fun g7 => ?_)
        · replace h := h.1 g7
          refine q_iconst (pc := 79) (v := 0) k42_79 (by decide) ?_
          refine q_istore (pc := 80) [some (.ref 44), some (.int a1), some (.int a2), none, some (.int a4), some (.int a5), some (.int a6), some (.int r3), some (.int 0)] k42_80 rfl (by decide) rfl ?_
          refine q_iload (pc := 82) k42_82 rfl ?_
          refine q_if_eq (pc := 84) 103 k42_84 (by decide) (fun _ => ?_) (fun g => absurd g (by decide))
          refine q_aload_n (pc := 103) k42_103 rfl ?_
          refine q_getR (pc := 104) k42_104 fg42_23 rfl rfl ?_
          refine q_getR (pc := 107) k42_107 fg42_54 rfl rfl ?_
          refine q_iload (pc := 110) k42_110 rfl ?_
          refine q_ialdv (pc := 112) (v := M2 12 (Int32.toNatClampNeg r3)) k42_112 rfl h.1 rfl ?_
          replace h := h.2
          refine q_iconst (pc := 113) (v := 3) k42_113 (by decide) ?_
          refine q_icmp_ne (pc := 114) 139 k42_114 (by decide) (fun g8 => ?_) (fun g8 => ?_)
          · replace h := h.1 g8
            refine q_iinc (pc := 139) (v := a6 + 1) [some (.ref 44), some (.int a1), some (.int a2), none, some (.int a4), some (.int a5), some (.int (a6 + 1)), some (.int r3), some (.int 0)] k42_139 rfl rfl rfl (by decide) rfl ?_
            refine q_goto (pc := 142) 22 k42_142 (by decide) ?_
            exact q_forget [some (.ref 44), some (.int a1), some (.int a2), none, some (.int a4), some (.int a5), some (.int (a6 + 1)), none, none] (q_subOk (And.intro rfl (And.intro rfl (And.intro rfl (And.intro rfl (And.intro rfl (And.intro rfl (trivial)))))))) h
          · replace h := h.2 g8
            refine q_aload_n (pc := 117) k42_117 rfl ?_
            refine q_iload_n (pc := 118) k42_118 rfl ?_
            refine q_iload (pc := 119) k42_119 rfl ?_
            refine q_iconst (pc := 121) (v := 1) k42_121 (by decide) ?_
            refine q_iload (pc := 122) k42_122 rfl ?_
            refine q_ishl (pc := 124) k42_124 ?_
            refine q_ior (pc := 125) k42_125 ?_
            refine q_aload_n (pc := 126) k42_126 rfl ?_
            refine q_getR (pc := 127) k42_127 fg42_23 rfl rfl ?_
            refine q_getR (pc := 130) k42_130 fg42_51 rfl rfl ?_
            refine q_iload (pc := 133) k42_133 rfl ?_
            refine q_ialdv (pc := 135) (v := M2 14 (Int32.toNatClampNeg r3)) k42_135 rfl h.1 rfl ?_
            replace h := h.2
            refine q_invV (pc := 136) (As := [.int a1, .int (a5 ||| ((1 : Int32) <<< (r3 &&& 31))), .int (M2 14 (Int32.toNatClampNeg r3))]) (st := []) k42_136 lm42_57 ov43 rfl rfl rfl (q_cat rfl) (Nat.le_of_ble_eq_true rfl) hd h ?_
            rintro v M9 ⟨rfl, h⟩
            show q_Ex X d 42 (136 + 3) [some (.ref 44), some (.int a1), some (.int a2), none, some (.int a4), some (.int a5), some (.int a6), some (.int r3), some (.int 0)] [] M9 _
            refine q_iinc (pc := 139) (v := a6 + 1) [some (.ref 44), some (.int a1), some (.int a2), none, some (.int a4), some (.int a5), some (.int (a6 + 1)), some (.int r3), some (.int 0)] k42_139 rfl rfl rfl (by decide) rfl ?_
            refine q_goto (pc := 142) 22 k42_142 (by decide) ?_
            exact q_forget [some (.ref 44), some (.int a1), some (.int a2), none, some (.int a4), some (.int a5), some (.int (a6 + 1)), none, none] (q_subOk (And.intro rfl (And.intro rfl (And.intro rfl (And.intro rfl (And.intro rfl (And.intro rfl (trivial)))))))) h
        · replace h := h.2 g7
          refine q_iconst (pc := 75) (v := 1) k42_75 (by decide) ?_
          refine q_goto (pc := 76) 80 k42_76 (by decide) ?_
          refine q_istore (pc := 80) [some (.ref 44), some (.int a1), some (.int a2), none, some (.int a4), some (.int a5), some (.int a6), some (.int r3), some (.int 1)] k42_80 rfl (by decide) rfl ?_
          refine q_iload (pc := 82) k42_82 rfl ?_
          refine q_if_eq (pc := 84) 103 k42_84 (by decide) (fun g => absurd g (by decide)) (fun _ => ?_)
          refine q_aload_n (pc := 87) k42_87 rfl ?_
          refine q_iload_n (pc := 88) k42_88 rfl ?_
          refine q_iload (pc := 89) k42_89 rfl ?_
          refine q_iload (pc := 91) k42_91 rfl ?_
          refine q_iload (pc := 93) k42_93 rfl ?_
          refine q_iconst (pc := 95) (v := 1) k42_95 (by decide) ?_
          refine q_iadd (pc := 96) k42_96 ?_
          refine q_invV (pc := 97) (As := [.int a1, .int r3, .int a5, .int (a4 + 1)]) (st := []) k42_97 lm42_44 ov42 rfl rfl rfl (q_cat rfl) (Nat.le_of_ble_eq_true rfl) hd h ?_
          rintro v M10 ⟨rfl, h⟩
          show q_Ex X d 42 (97 + 3) [some (.ref 44), some (.int a1), some (.int a2), none, some (.int a4), some (.int a5), some (.int a6), some (.int r3), some (.int 1)] [] M10 _
          refine q_goto (pc := 100) 139 k42_100 (by decide) ?_
          refine q_iinc (pc := 139) (v := a6 + 1) [some (.ref 44), some (.int a1), some (.int a2), none, some (.int a4), some (.int a5), some (.int (a6 + 1)), some (.int r3), some (.int 1)] k42_139 rfl rfl rfl (by decide) rfl ?_
          refine q_goto (pc := 142) 22 k42_142 (by decide) ?_
          exact q_forget [some (.ref 44), some (.int a1), some (.int a2), none, some (.int a4), some (.int a5), some (.int (a6 + 1)), none, none] (q_subOk (And.intro rfl (And.intro rfl (And.intro rfl (And.intro rfl (And.intro rfl (And.intro rfl (trivial)))))))) h
set_option maxRecDepth 20000 in
theorem vc43_44 {X : Nat × (Nat → Int32)} {d : Nat} {M : q_M} {a1 a2 a3 : Int32} {K : q_M → Prop} (h : vp_in a1 3 ∧ (((126 ≤ (M 45 (Int32.toNatClampNeg a1))) → (K M)) ∧ ((¬ 126 ≤ (M 45 (Int32.toNatClampNeg a1))) → (vp_in a1 3 ∧ (vp_in (M 45 (Int32.toNatClampNeg a1)) 126 ∧ (vp_in a1 3 ∧ (vp_in (M 45 (Int32.toNatClampNeg a1)) 126 ∧ (vp_in a1 3 ∧ (K (q_set (q_set (q_set M (47 + Int32.toNatClampNeg a1) (Int32.toNatClampNeg (M 45 (Int32.toNatClampNeg a1))) a2) (51 + Int32.toNatClampNeg a1) (Int32.toNatClampNeg (M 45 (Int32.toNatClampNeg a1))) a3) 45 (Int32.toNatClampNeg a1) ((M 45 (Int32.toNatClampNeg a1)) + 1))))))))))) : q_Cv X d 43 [.ref 44, .int a1, .int a2, .int a3] M K := by
  show q_Ex X d 43 0 [some (.ref 44), some (.int a1), some (.int a2), some (.int a3), none] [] M (q_rn K)
  refine q_aload_n (pc := 0) k43_0 rfl ?_
  refine q_getR (pc := 1) k43_1 fg43_9 rfl rfl ?_
  refine q_iload_n (pc := 4) k43_4 rfl ?_
  refine q_ialdv (pc := 5) (v := M 45 (Int32.toNatClampNeg a1)) k43_5 rfl h.1 rfl ?_
  replace h := h.2
  refine q_istore (pc := 6) [some (.ref 44), some (.int a1), some (.int a2), some (.int a3), some (.int (M 45 (Int32.toNatClampNeg a1)))] k43_6 rfl (by decide) rfl ?_
  refine q_iload (pc := 8) k43_8 rfl ?_
  refine q_bipush (pc := 10) (v := 126) k43_10 (by decide) ?_
  refine q_icmp_ge (pc := 12) 45 k43_12 (by decide) (fun g1 => ?_) (fun g1 => ?_)
  · replace h := h.1 g1
    exact q_return (pc := 45) k43_45 rfl ⟨rfl, h⟩
  · replace h := h.2 g1
    refine q_aload_n (pc := 15) k43_15 rfl ?_
    refine q_getR (pc := 16) k43_16 fg43_17 rfl rfl ?_
    refine q_iload_n (pc := 19) k43_19 rfl ?_
    have w2 := h.1
    replace h := h.2
    refine q_aald (pc := 20) k43_20 rfl w2 ?_
    refine q_iload (pc := 21) k43_21 rfl ?_
    refine q_iload_n (pc := 23) k43_23 rfl ?_
    refine q_iastv (pc := 24) (k := (Int32.toNatClampNeg (M 45 (Int32.toNatClampNeg a1)))) k43_24 (rw46 w2) h.1 rfl ?_
    replace h := h.2
    refine q_aload_n (pc := 25) k43_25 rfl ?_
    refine q_getR (pc := 26) k43_26 fg43_20 rfl rfl ?_
    refine q_iload_n (pc := 29) k43_29 rfl ?_
    have w3 := h.1
    replace h := h.2
    refine q_aald (pc := 30) k43_30 rfl w3 ?_
    refine q_iload (pc := 31) k43_31 rfl ?_
    refine q_iload_n (pc := 33) k43_33 rfl ?_
    refine q_iastv (pc := 34) (k := (Int32.toNatClampNeg (M 45 (Int32.toNatClampNeg a1)))) k43_34 (rw50 w3) h.1 rfl ?_
    replace h := h.2
    refine q_aload_n (pc := 35) k43_35 rfl ?_
    refine q_getR (pc := 36) k43_36 fg43_9 rfl rfl ?_
    refine q_iload_n (pc := 39) k43_39 rfl ?_
    refine q_iload (pc := 40) k43_40 rfl ?_
    refine q_iconst (pc := 42) (v := 1) k43_42 (by decide) ?_
    refine q_iadd (pc := 43) k43_43 ?_
    refine q_iastv (pc := 44) (k := (Int32.toNatClampNeg a1)) k43_44 rfl h.1 rfl ?_
    replace h := h.2
    exact q_return (pc := 45) k43_45 rfl ⟨rfl, h⟩
set_option maxRecDepth 20000 in
theorem vc41_54 {X : Nat × (Nat → Int32)} {d : Nat} (hd : 0 < d) {M : q_M} {a1 : Int32} {K : q_M → Prop} (h : q_Ex X d 41 17 [some (.ref 54), none, some (.int 0)] [] (q_set M 54 1 (if (M 11 4) < a1 then (M 11 4) else a1)) (q_rn K)) : q_Cv X d 41 [.ref 54, .int a1] M K := by
  show q_Ex X d 41 0 [some (.ref 54), some (.int a1), none] [] M (q_rn K)
  refine q_aload_n (pc := 0) k41_0 rfl ?_
  refine q_iload_n (pc := 1) k41_1 rfl ?_
  refine q_aload_n (pc := 2) k41_2 rfl ?_
  refine q_getR (pc := 3) k41_3 fg41_23 rfl rfl ?_
  refine q_getIv (pc := 6) (v := M 11 4) k41_6 fg41_27 rfl rfl rfl ?_
  refine q_mmin (pc := 9) k41_9 lx41_33 oc_min (Nat.le_of_ble_eq_true rfl) ?_
  refine q_putI (pc := 12) k41_12 fp41_39 rfl rfl ?_
  refine q_iconst (pc := 15) (v := 0) k41_15 (by decide) ?_
  refine q_istore_n (pc := 16) [some (.ref 54), some (.int a1), some (.int 0)] k41_16 rfl (by decide) rfl ?_
  exact q_forget [some (.ref 54), none, some (.int 0)] (q_subOk (And.intro rfl (And.intro rfl (trivial)))) h
set_option maxRecDepth 20000 in
theorem vc41_54_p17 {X : Nat × (Nat → Int32)} {d : Nat} (hd : 0 < d) {M : q_M} {a2 : Int32} {K : q_M → Prop} (h : (((M 54 1) ≤ a2) → (K M)) ∧ ((¬ (M 54 1) ≤ a2) → (vp_in a2 3 ∧ (q_Ci X (d - 1) 25 [.ref 11, .int a2] (q_set M 55 (Int32.toNatClampNeg a2) 0) (fun r3 M2 => q_Cv X (d - 1) 42 [.ref 54, .int a2, .int r3, .int 0, .int 0] M2 (fun M4 => q_Ex X d 41 17 [some (.ref 54), none, some (.int (a2 + 1))] [] M4 (q_rn K))))))) : q_Ex X d 41 17 [some (.ref 54), none, some (.int a2)] [] M (q_rn K) := by
  refine q_iload_n (pc := 17) k41_17 rfl ?_
  refine q_aload_n (pc := 18) k41_18 rfl ?_
  refine q_getIv (pc := 19) (v := M 54 1) k41_19 fg41_39 rfl rfl rfl ?_
  refine q_icmp_ge (pc := 22) 53 k41_22 (by decide) (fun g1 => ?_) (fun g1 => ?_)
  · replace h := h.1 g1
    exact q_return (pc := 53) k41_53 rfl ⟨rfl, h⟩
  · replace h := h.2 g1
    refine q_aload_n (pc := 25) k41_25 rfl ?_
    refine q_getR (pc := 26) k41_26 fg41_9 rfl rfl ?_
    refine q_iload_n (pc := 29) k41_29 rfl ?_
    refine q_iconst (pc := 30) (v := 0) k41_30 (by decide) ?_
    refine q_iastv (pc := 31) (k := (Int32.toNatClampNeg a2)) k41_31 rfl h.1 rfl ?_
    replace h := h.2
    refine q_aload_n (pc := 32) k41_32 rfl ?_
    refine q_iload_n (pc := 33) k41_33 rfl ?_
    refine q_aload_n (pc := 34) k41_34 rfl ?_
    refine q_getR (pc := 35) k41_35 fg41_23 rfl rfl ?_
    refine q_iload_n (pc := 38) k41_38 rfl ?_
    refine q_invV (pc := 39) (As := [.int a2]) (st := [.int a2, .ref 54]) k41_39 lm41_40 ov25 rfl rfl rfl (q_cat rfl) (Nat.le_of_ble_eq_true rfl) hd h ?_
    rintro v M2 ⟨r3, rfl, h⟩
    show q_Ex X d 41 (39 + 3) [some (.ref 54), none, some (.int a2)] [.int r3, .int a2, .ref 54] M2 _
    refine q_iconst (pc := 42) (v := 0) k41_42 (by decide) ?_
    refine q_iconst (pc := 43) (v := 0) k41_43 (by decide) ?_
    refine q_invV (pc := 44) (As := [.int a2, .int r3, .int 0, .int 0]) (st := []) k41_44 lm41_44 ov42 rfl rfl rfl (q_cat rfl) (Nat.le_of_ble_eq_true rfl) hd h ?_
    rintro v M4 ⟨rfl, h⟩
    show q_Ex X d 41 (44 + 3) [some (.ref 54), none, some (.int a2)] [] M4 _
    refine q_iinc (pc := 47) (v := a2 + 1) [some (.ref 54), none, some (.int (a2 + 1))] k41_47 rfl rfl rfl (by decide) rfl ?_
    refine q_goto (pc := 50) 17 k41_50 (by decide) ?_
    exact h
set_option maxRecDepth 20000 in
theorem vc42_54 {X : Nat × (Nat → Int32)} {d : Nat} {M : q_M} {a1 a2 a3 a4 : Int32} {K : q_M → Prop} (h : ((a2 < 0) → (K M)) ∧ ((¬ a2 < 0) → (((a4 ≤ 10) → (q_Ex X d 42 22 [some (.ref 54), some (.int a1), some (.int a2), none, some (.int a4), some (.int (a3 ||| ((1 : Int32) <<< (a2 &&& 31)))), some (.int 0), none, none] [] M (q_rn K))) ∧ ((¬ a4 ≤ 10) → (K M))))) : q_Cv X d 42 [.ref 54, .int a1, .int a2, .int a3, .int a4] M K := by
  show q_Ex X d 42 0 [some (.ref 54), some (.int a1), some (.int a2), some (.int a3), some (.int a4), none, none, none, none] [] M (q_rn K)
  refine q_iload_n (pc := 0) k42_0 rfl ?_
  refine q_if_lt (pc := 1) 11 k42_1 (by decide) (fun g1 => ?_) (fun g1 => ?_)
  · replace h := h.1 g1
    exact q_return (pc := 11) k42_11 rfl ⟨rfl, h⟩
  · replace h := h.2 g1
    refine q_iload (pc := 4) k42_4 rfl ?_
    refine q_bipush (pc := 6) (v := 10) k42_6 (by decide) ?_
    refine q_icmp_le (pc := 8) 12 k42_8 (by decide) (fun g2 => ?_) (fun g2 => ?_)
    · replace h := h.1 g2
      refine q_iload_n (pc := 12) k42_12 rfl ?_
      refine q_iconst (pc := 13) (v := 1) k42_13 (by decide) ?_
      refine q_iload_n (pc := 14) k42_14 rfl ?_
      refine q_ishl (pc := 15) k42_15 ?_
      refine q_ior (pc := 16) k42_16 ?_
      refine q_istore (pc := 17) [some (.ref 54), some (.int a1), some (.int a2), some (.int a3), some (.int a4), some (.int (a3 ||| ((1 : Int32) <<< (a2 &&& 31)))), none, none, none] k42_17 rfl (by decide) rfl ?_
      refine q_iconst (pc := 19) (v := 0) k42_19 (by decide) ?_
      refine q_istore (pc := 20) [some (.ref 54), some (.int a1), some (.int a2), some (.int a3), some (.int a4), some (.int (a3 ||| ((1 : Int32) <<< (a2 &&& 31)))), some (.int 0), none, none] k42_20 rfl (by decide) rfl ?_
      exact q_forget [some (.ref 54), some (.int a1), some (.int a2), none, some (.int a4), some (.int (a3 ||| ((1 : Int32) <<< (a2 &&& 31)))), some (.int 0), none, none] (q_subOk (And.intro rfl (And.intro rfl (And.intro rfl (And.intro rfl (And.intro rfl (And.intro rfl (trivial)))))))) h
    · replace h := h.2 g2
      exact q_return (pc := 11) k42_11 rfl ⟨rfl, h⟩
set_option maxRecDepth 20000 in
theorem vc42_54_p22 {X : Nat × (Nat → Int32)} {d : Nat} (hd : 0 < d) {M : q_M} {a1 a2 a4 a5 a6 : Int32} {K : q_M → Prop} (h : ((1 < a6) → (K M)) ∧ ((¬ 1 < a6) → (q_Ci X (d - 1) 27 [.ref 11, .int a2, .int a6] M (fun r3 M2 => ((r3 < 0) → (q_Ex X d 42 22 [some (.ref 54), some (.int a1), some (.int a2), none, some (.int a4), some (.int a5), some (.int (a6 + 1)), none, none] [] M2 (q_rn K))) ∧ ((¬ r3 < 0) → (vp_in r3 30 ∧ ((((M2 14 (Int32.toNatClampNeg r3)) < 0) → (q_Cv X (d - 1) 42 [.ref 54, .int a1, .int r3, .int a5, .int (a4 + 1)] M2 (fun M6 => q_Ex X d 42 22 [some (.ref 54), some (.int a1), some (.int a2), none, some (.int a4), some (.int a5), some (.int (a6 + 1)), none, none] [] M6 (q_rn K)))) ∧ ((¬ (M2 14 (Int32.toNatClampNeg r3)) < 0) → (vp_in r3 30 ∧ ((((M2 14 (Int32.toNatClampNeg r3)) < (M2 54 1)) → (vp_in r3 30 ∧ (((¬ (M2 12 (Int32.toNatClampNeg r3)) = 3) → (q_Ex X d 42 22 [some (.ref 54), some (.int a1), some (.int a2), none, some (.int a4), some (.int a5), some (.int (a6 + 1)), none, none] [] M2 (q_rn K))) ∧ (((M2 12 (Int32.toNatClampNeg r3)) = 3) → (vp_in r3 30 ∧ (q_Cv X (d - 1) 43 [.ref 54, .int a1, .int (a5 ||| ((1 : Int32) <<< (r3 &&& 31))), .int (M2 14 (Int32.toNatClampNeg r3))] M2 (fun M9 => q_Ex X d 42 22 [some (.ref 54), some (.int a1), some (.int a2), none, some (.int a4), some (.int a5), some (.int (a6 + 1)), none, none] [] M9 (q_rn K)))))))) ∧ ((¬ (M2 14 (Int32.toNatClampNeg r3)) < (M2 54 1)) → (q_Cv X (d - 1) 42 [.ref 54, .int a1, .int r3, .int a5, .int (a4 + 1)] M2 (fun M10 => q_Ex X d 42 22 [some (.ref 54), some (.int a1), some (.int a2), none, some (.int a4), some (.int a5), some (.int (a6 + 1)), none, none] [] M10 (q_rn K)))))))))))))) : q_Ex X d 42 22 [some (.ref 54), some (.int a1), some (.int a2), none, some (.int a4), some (.int a5), some (.int a6), none, none] [] M (q_rn K) := by
  refine q_iload (pc := 22) k42_22 rfl ?_
  refine q_iconst (pc := 24) (v := 1) k42_24 (by decide) ?_
  refine q_icmp_gt (pc := 25) 145 k42_25 (by decide) (fun g1 => ?_) (fun g1 => ?_)
  · replace h := h.1 g1
    exact q_return (pc := 145) k42_145 rfl ⟨rfl, h⟩
  · replace h := h.2 g1
    refine q_aload_n (pc := 28) k42_28 rfl ?_
    refine q_getR (pc := 29) k42_29 fg42_23 rfl rfl ?_
    refine q_iload_n (pc := 32) k42_32 rfl ?_
    refine q_iload (pc := 33) k42_33 rfl ?_
    refine q_invV (pc := 35) (As := [.int a2, .int a6]) (st := []) k42_35 lm42_48 ov27 rfl rfl rfl (q_cat rfl) (Nat.le_of_ble_eq_true rfl) hd h ?_
    rintro v M2 ⟨r3, rfl, h⟩
    show q_Ex X d 42 (35 + 3) [some (.ref 54), some (.int a1), some (.int a2), none, some (.int a4), some (.int a5), some (.int a6), none, none] [.int r3] M2 _
    refine q_istore (pc := 38) [some (.ref 54), some (.int a1), some (.int a2), none, some (.int a4), some (.int a5), some (.int a6), some (.int r3), none] k42_38 rfl (by decide) rfl ?_
    refine q_iload (pc := 40) k42_40 rfl ?_
    refine q_if_lt (pc := 42) 139 k42_42 (by decide) (fun g4 => ?_) (fun g4 => ?_)
    · replace h := h.1 g4
      refine q_iinc (pc := 139) (v := a6 + 1) [some (.ref 54), some (.int a1), some (.int a2), none, some (.int a4), some (.int a5), some (.int (a6 + 1)), some (.int r3), none] k42_139 rfl rfl rfl (by decide) rfl ?_
      refine q_goto (pc := 142) 22 k42_142 (by decide) ?_
      exact q_forget [some (.ref 54), some (.int a1), some (.int a2), none, some (.int a4), some (.int a5), some (.int (a6 + 1)), none, none] (q_subOk (And.intro rfl (And.intro rfl (And.intro rfl (And.intro rfl (And.intro rfl (And.intro rfl (trivial)))))))) h
    · replace h := h.2 g4
      refine q_aload_n (pc := 45) k42_45 rfl ?_
      refine q_getR (pc := 46) k42_46 fg42_23 rfl rfl ?_
      refine q_getR (pc := 49) k42_49 fg42_51 rfl rfl ?_
      refine q_iload (pc := 52) k42_52 rfl ?_
      refine q_ialdv (pc := 54) (v := M2 14 (Int32.toNatClampNeg r3)) k42_54 rfl h.1 rfl ?_
      replace h := h.2
      refine q_if_lt (pc := 55) 75 k42_55 (by decide) (fun g5 => ?_) (fun g5 => ?_)
      · replace h := h.1 g5
        refine q_iconst (pc := 75) (v := 1) k42_75 (by decide) ?_
        refine q_goto (pc := 76) 80 k42_76 (by decide) ?_
        refine q_istore (pc := 80) [some (.ref 54), some (.int a1), some (.int a2), none, some (.int a4), some (.int a5), some (.int a6), some (.int r3), some (.int 1)] k42_80 rfl (by decide) rfl ?_
        refine q_iload (pc := 82) k42_82 rfl ?_
        refine q_if_eq (pc := 84) 103 k42_84 (by decide) (fun g => absurd g (by decide)) (fun _ => ?_)
        refine q_aload_n (pc := 87) k42_87 rfl ?_
        refine q_iload_n (pc := 88) k42_88 rfl ?_
        refine q_iload (pc := 89) k42_89 rfl ?_
        refine q_iload (pc := 91) k42_91 rfl ?_
        refine q_iload (pc := 93) k42_93 rfl ?_
        refine q_iconst (pc := 95) (v := 1) k42_95 (by decide) ?_
        refine q_iadd (pc := 96) k42_96 ?_
        refine q_invV (pc := 97) (As := [.int a1, .int r3, .int a5, .int (a4 + 1)]) (st := []) k42_97 lm42_44 ov42 rfl rfl rfl (q_cat rfl) (Nat.le_of_ble_eq_true rfl) hd h ?_
        rintro v M6 ⟨rfl, h⟩
        show q_Ex X d 42 (97 + 3) [some (.ref 54), some (.int a1), some (.int a2), none, some (.int a4), some (.int a5), some (.int a6), some (.int r3), some (.int 1)] [] M6 _
        refine q_goto (pc := 100) 139 k42_100 (by decide) ?_
        refine q_iinc (pc := 139) (v := a6 + 1) [some (.ref 54), some (.int a1), some (.int a2), none, some (.int a4), some (.int a5), some (.int (a6 + 1)), some (.int r3), some (.int 1)] k42_139 rfl rfl rfl (by decide) rfl ?_
        refine q_goto (pc := 142) 22 k42_142 (by decide) ?_
        exact q_forget [some (.ref 54), some (.int a1), some (.int a2), none, some (.int a4), some (.int a5), some (.int (a6 + 1)), none, none] (q_subOk (And.intro rfl (And.intro rfl (And.intro rfl (And.intro rfl (And.intro rfl (And.intro rfl (trivial)))))))) h
      · replace h := h.2 g5
        refine q_aload_n (pc := 58) k42_58 rfl ?_
        refine q_getR (pc := 59) k42_59 fg42_23 rfl rfl ?_
        refine q_getR (pc := 62) k42_62 fg42_51 rfl rfl ?_
        refine q_iload (pc := 65) k42_65 rfl ?_
        refine q_ialdv (pc := 67) (v := M2 14 (Int32.toNatClampNeg r3)) k42_67 rfl h.1 rfl ?_
        replace h := h.2
        refine q_aload_n (pc := 68) k42_68 rfl ?_
        refine q_getIv (pc := 69) (v := M2 54 1) k42_69 fg42_39 rfl rfl rfl ?_
        refine q_icmp_lt (pc := 72) 79 k42_72 (by decide) (fun g7 => ?_) (fun g7 => ?_)
        · replace h := h.1 g7
          refine q_iconst (pc := 79) (v := 0) k42_79 (by decide) ?_
          refine q_istore (pc := 80) [some (.ref 54), some (.int a1), some (.int a2), none, some (.int a4), some (.int a5), some (.int a6), some (.int r3), some (.int 0)] k42_80 rfl (by decide) rfl ?_
          refine q_iload (pc := 82) k42_82 rfl ?_
          refine q_if_eq (pc := 84) 103 k42_84 (by decide) (fun _ => ?_) (fun g => absurd g (by decide))
          refine q_aload_n (pc := 103) k42_103 rfl ?_
          refine q_getR (pc := 104) k42_104 fg42_23 rfl rfl ?_
          refine q_getR (pc := 107) k42_107 fg42_54 rfl rfl ?_
          refine q_iload (pc := 110) k42_110 rfl ?_
          refine q_ialdv (pc := 112) (v := M2 12 (Int32.toNatClampNeg r3)) k42_112 rfl h.1 rfl ?_
          replace h := h.2
          refine q_iconst (pc := 113) (v := 3) k42_113 (by decide) ?_
          refine q_icmp_ne (pc := 114) 139 k42_114 (by decide) (fun g8 => ?_) (fun g8 => ?_)
          · replace h := h.1 g8
            refine q_iinc (pc := 139) (v := a6 + 1) [some (.ref 54), some (.int a1), some (.int a2), none, some (.int a4), some (.int a5), some (.int (a6 + 1)), some (.int r3), some (.int 0)] k42_139 rfl rfl rfl (by decide) rfl ?_
            refine q_goto (pc := 142) 22 k42_142 (by decide) ?_
            exact q_forget [some (.ref 54), some (.int a1), some (.int a2), none, some (.int a4), some (.int a5), some (.int (a6 + 1)), none, none] (q_subOk (And.intro rfl (And.intro rfl (And.intro rfl (And.intro rfl (And.intro rfl (And.intro rfl (trivial)))))))) h
          · replace h := h.2 g8
            refine q_aload_n (pc := 117) k42_117 rfl ?_
            refine q_iload_n (pc := 118) k42_118 rfl ?_
            refine q_iload (pc := 119) k42_119 rfl ?_
            refine q_iconst (pc := 121) (v := 1) k42_121 (by decide) ?_
            refine q_iload (pc := 122) k42_122 rfl ?_
            refine q_ishl (pc := 124) k42_124 ?_
            refine q_ior (pc := 125) k42_125 ?_
            refine q_aload_n (pc := 126) k42_126 rfl ?_
            refine q_getR (pc := 127) k42_127 fg42_23 rfl rfl ?_
            refine q_getR (pc := 130) k42_130 fg42_51 rfl rfl ?_
            refine q_iload (pc := 133) k42_133 rfl ?_
            refine q_ialdv (pc := 135) (v := M2 14 (Int32.toNatClampNeg r3)) k42_135 rfl h.1 rfl ?_
            replace h := h.2
            refine q_invV (pc := 136) (As := [.int a1, .int (a5 ||| ((1 : Int32) <<< (r3 &&& 31))), .int (M2 14 (Int32.toNatClampNeg r3))]) (st := []) k42_136 lm42_57 ov43 rfl rfl rfl (q_cat rfl) (Nat.le_of_ble_eq_true rfl) hd h ?_
            rintro v M9 ⟨rfl, h⟩
            show q_Ex X d 42 (136 + 3) [some (.ref 54), some (.int a1), some (.int a2), none, some (.int a4), some (.int a5), some (.int a6), some (.int r3), some (.int 0)] [] M9 _
            refine q_iinc (pc := 139) (v := a6 + 1) [some (.ref 54), some (.int a1), some (.int a2), none, some (.int a4), some (.int a5), some (.int (a6 + 1)), some (.int r3), some (.int 0)] k42_139 rfl rfl rfl (by decide) rfl ?_
            refine q_goto (pc := 142) 22 k42_142 (by decide) ?_
            exact q_forget [some (.ref 54), some (.int a1), some (.int a2), none, some (.int a4), some (.int a5), some (.int (a6 + 1)), none, none] (q_subOk (And.intro rfl (And.intro rfl (And.intro rfl (And.intro rfl (And.intro rfl (And.intro rfl (trivial)))))))) h
        · replace h := h.2 g7
          refine q_iconst (pc := 75) (v := 1) k42_75 (by decide) ?_
          refine q_goto (pc := 76) 80 k42_76 (by decide) ?_
          refine q_istore (pc := 80) [some (.ref 54), some (.int a1), some (.int a2), none, some (.int a4), some (.int a5), some (.int a6), some (.int r3), some (.int 1)] k42_80 rfl (by decide) rfl ?_
          refine q_iload (pc := 82) k42_82 rfl ?_
          refine q_if_eq (pc := 84) 103 k42_84 (by decide) (fun g => absurd g (by decide)) (fun _ => ?_)
          refine q_aload_n (pc := 87) k42_87 rfl ?_
          refine q_iload_n (pc := 88) k42_88 rfl ?_
          refine q_iload (pc := 89) k42_89 rfl ?_
          refine q_iload (pc := 91) k42_91 rfl ?_
          refine q_iload (pc := 93) k42_93 rfl ?_
          refine q_iconst (pc := 95) (v := 1) k42_95 (by decide) ?_
          refine q_iadd (pc := 96) k42_96 ?_
          refine q_invV (pc := 97) (As := [.int a1, .int r3, .int a5, .int (a4 + 1)]) (st := []) k42_97 lm42_44 ov42 rfl rfl rfl (q_cat rfl) (Nat.le_of_ble_eq_true rfl) hd h ?_
          rintro v M10 ⟨rfl, h⟩
          show q_Ex X d 42 (97 + 3) [some (.ref 54), some (.int a1), some (.int a2), none, some (.int a4), some (.int a5), some (.int a6), some (.int r3), some (.int 1)] [] M10 _
          refine q_goto (pc := 100) 139 k42_100 (by decide) ?_
          refine q_iinc (pc := 139) (v := a6 + 1) [some (.ref 54), some (.int a1), some (.int a2), none, some (.int a4), some (.int a5), some (.int (a6 + 1)), some (.int r3), some (.int 1)] k42_139 rfl rfl rfl (by decide) rfl ?_
          refine q_goto (pc := 142) 22 k42_142 (by decide) ?_
          exact q_forget [some (.ref 54), some (.int a1), some (.int a2), none, some (.int a4), some (.int a5), some (.int (a6 + 1)), none, none] (q_subOk (And.intro rfl (And.intro rfl (And.intro rfl (And.intro rfl (And.intro rfl (And.intro rfl (trivial)))))))) h
set_option maxRecDepth 20000 in
theorem vc43_54 {X : Nat × (Nat → Int32)} {d : Nat} {M : q_M} {a1 a2 a3 : Int32} {K : q_M → Prop} (h : vp_in a1 3 ∧ (((126 ≤ (M 55 (Int32.toNatClampNeg a1))) → (K M)) ∧ ((¬ 126 ≤ (M 55 (Int32.toNatClampNeg a1))) → (vp_in a1 3 ∧ (vp_in (M 55 (Int32.toNatClampNeg a1)) 126 ∧ (vp_in a1 3 ∧ (vp_in (M 55 (Int32.toNatClampNeg a1)) 126 ∧ (vp_in a1 3 ∧ (K (q_set (q_set (q_set M (57 + Int32.toNatClampNeg a1) (Int32.toNatClampNeg (M 55 (Int32.toNatClampNeg a1))) a2) (61 + Int32.toNatClampNeg a1) (Int32.toNatClampNeg (M 55 (Int32.toNatClampNeg a1))) a3) 55 (Int32.toNatClampNeg a1) ((M 55 (Int32.toNatClampNeg a1)) + 1))))))))))) : q_Cv X d 43 [.ref 54, .int a1, .int a2, .int a3] M K := by
  show q_Ex X d 43 0 [some (.ref 54), some (.int a1), some (.int a2), some (.int a3), none] [] M (q_rn K)
  refine q_aload_n (pc := 0) k43_0 rfl ?_
  refine q_getR (pc := 1) k43_1 fg43_9 rfl rfl ?_
  refine q_iload_n (pc := 4) k43_4 rfl ?_
  refine q_ialdv (pc := 5) (v := M 55 (Int32.toNatClampNeg a1)) k43_5 rfl h.1 rfl ?_
  replace h := h.2
  refine q_istore (pc := 6) [some (.ref 54), some (.int a1), some (.int a2), some (.int a3), some (.int (M 55 (Int32.toNatClampNeg a1)))] k43_6 rfl (by decide) rfl ?_
  refine q_iload (pc := 8) k43_8 rfl ?_
  refine q_bipush (pc := 10) (v := 126) k43_10 (by decide) ?_
  refine q_icmp_ge (pc := 12) 45 k43_12 (by decide) (fun g1 => ?_) (fun g1 => ?_)
  · replace h := h.1 g1
    exact q_return (pc := 45) k43_45 rfl ⟨rfl, h⟩
  · replace h := h.2 g1
    refine q_aload_n (pc := 15) k43_15 rfl ?_
    refine q_getR (pc := 16) k43_16 fg43_17 rfl rfl ?_
    refine q_iload_n (pc := 19) k43_19 rfl ?_
    have w2 := h.1
    replace h := h.2
    refine q_aald (pc := 20) k43_20 rfl w2 ?_
    refine q_iload (pc := 21) k43_21 rfl ?_
    refine q_iload_n (pc := 23) k43_23 rfl ?_
    refine q_iastv (pc := 24) (k := (Int32.toNatClampNeg (M 55 (Int32.toNatClampNeg a1)))) k43_24 (rw56 w2) h.1 rfl ?_
    replace h := h.2
    refine q_aload_n (pc := 25) k43_25 rfl ?_
    refine q_getR (pc := 26) k43_26 fg43_20 rfl rfl ?_
    refine q_iload_n (pc := 29) k43_29 rfl ?_
    have w3 := h.1
    replace h := h.2
    refine q_aald (pc := 30) k43_30 rfl w3 ?_
    refine q_iload (pc := 31) k43_31 rfl ?_
    refine q_iload_n (pc := 33) k43_33 rfl ?_
    refine q_iastv (pc := 34) (k := (Int32.toNatClampNeg (M 55 (Int32.toNatClampNeg a1)))) k43_34 (rw60 w3) h.1 rfl ?_
    replace h := h.2
    refine q_aload_n (pc := 35) k43_35 rfl ?_
    refine q_getR (pc := 36) k43_36 fg43_9 rfl rfl ?_
    refine q_iload_n (pc := 39) k43_39 rfl ?_
    refine q_iload (pc := 40) k43_40 rfl ?_
    refine q_iconst (pc := 42) (v := 1) k43_42 (by decide) ?_
    refine q_iadd (pc := 43) k43_43 ?_
    refine q_iastv (pc := 44) (k := (Int32.toNatClampNeg a1)) k43_44 rfl h.1 rfl ?_
    replace h := h.2
    exact q_return (pc := 45) k43_45 rfl ⟨rfl, h⟩
set_option maxRecDepth 20000 in
theorem vc44 {X : Nat × (Nat → Int32)} {d : Nat} (hd : 0 < d) {M : q_M} {a1 : Int32} {K : Int32 → q_M → Prop} (h : ((0 ≤ a1) → (((255 < a1) → (q_Ci X (d - 1) 72 [.ref 0, .int (-6)] M (fun r4 M3 => K r4 M3))) ∧ ((¬ 255 < a1) → ((((M 0 1) < 48) → (vp_in (M 0 1) 48 ∧ (K ((M 0 1) + 1) (q_set (q_set M 1 (Int32.toNatClampNeg (M 0 1)) a1) 0 1 ((M 0 1) + 1))))) ∧ ((¬ (M 0 1) < 48) → (q_Ci X (d - 1) 72 [.ref 0, .int (-6)] M (fun r7 M6 => K r7 M6))))))) ∧ ((¬ 0 ≤ a1) → (q_Ci X (d - 1) 72 [.ref 0, .int (-4)] M (fun r9 M8 => K r9 M8)))) : q_Ci X d 44 [.ref 0, .int a1] M K := by
  show q_Ex X d 44 0 [some (.ref 0), some (.int a1)] [] M (q_ri K)
  refine q_iload_n (pc := 0) k44_0 rfl ?_
  refine q_if_ge (pc := 1) 11 k44_1 (by decide) (fun g1 => ?_) (fun g1 => ?_)
  · replace h := h.1 g1
    refine q_iload_n (pc := 11) k44_11 rfl ?_
    refine q_sipush (pc := 12) (v := 255) k44_12 (by decide) ?_
    refine q_icmp_gt (pc := 15) 27 k44_15 (by decide) (fun g2 => ?_) (fun g2 => ?_)
    · replace h := h.1 g2
      refine q_aload_n (pc := 27) k44_27 rfl ?_
      refine q_bipush (pc := 28) (v := (-6)) k44_28 (by decide) ?_
      refine q_invV (pc := 30) (As := [.int (-6)]) (st := []) k44_30 lm44_100 ov72 rfl rfl rfl (q_cat rfl) (Nat.le_of_ble_eq_true rfl) hd h ?_
      rintro v M3 ⟨r4, rfl, h⟩
      show q_Ex X d 44 (30 + 3) [some (.ref 0), some (.int a1)] [.int r4] M3 _
      exact q_ireturn (pc := 33) k44_33 rfl ⟨_, rfl, h⟩
    · replace h := h.2 g2
      refine q_aload_n (pc := 18) k44_18 rfl ?_
      refine q_getIv (pc := 19) (v := M 0 1) k44_19 fg44_104 rfl rfl rfl ?_
      refine q_bipush (pc := 22) (v := 48) k44_22 (by decide) ?_
      refine q_icmp_lt (pc := 24) 34 k44_24 (by decide) (fun g5 => ?_) (fun g5 => ?_)
      · replace h := h.1 g5
        refine q_aload_n (pc := 34) k44_34 rfl ?_
        refine q_getR (pc := 35) k44_35 fg44_9 rfl rfl ?_
        refine q_aload_n (pc := 38) k44_38 rfl ?_
        refine q_getIv (pc := 39) (v := M 0 1) k44_39 fg44_104 rfl rfl rfl ?_
        refine q_iload_n (pc := 42) k44_42 rfl ?_
        refine q_iastv (pc := 43) (k := (Int32.toNatClampNeg (M 0 1))) k44_43 rfl h.1 rfl ?_
        replace h := h.2
        refine q_aload_n (pc := 44) k44_44 rfl ?_
        refine q_dup (pc := 45) k44_45 rfl ?_
        refine q_getIv (pc := 46) (v := M 0 1) k44_46 fg44_104 rfl rfl rfl ?_
        refine q_iconst (pc := 49) (v := 1) k44_49 (by decide) ?_
        refine q_iadd (pc := 50) k44_50 ?_
        refine q_putI (pc := 51) k44_51 fp44_104 rfl rfl ?_
        refine q_aload_n (pc := 54) k44_54 rfl ?_
        refine q_getIv (pc := 55) (v := (M 0 1) + 1) k44_55 fg44_104 rfl rfl rfl ?_
        exact q_ireturn (pc := 58) k44_58 rfl ⟨_, rfl, h⟩
      · replace h := h.2 g5
        refine q_aload_n (pc := 27) k44_27 rfl ?_
        refine q_bipush (pc := 28) (v := (-6)) k44_28 (by decide) ?_
        refine q_invV (pc := 30) (As := [.int (-6)]) (st := []) k44_30 lm44_100 ov72 rfl rfl rfl (q_cat rfl) (Nat.le_of_ble_eq_true rfl) hd h ?_
        rintro v M6 ⟨r7, rfl, h⟩
        show q_Ex X d 44 (30 + 3) [some (.ref 0), some (.int a1)] [.int r7] M6 _
        exact q_ireturn (pc := 33) k44_33 rfl ⟨_, rfl, h⟩
  · replace h := h.2 g1
    refine q_aload_n (pc := 4) k44_4 rfl ?_
    refine q_bipush (pc := 5) (v := (-4)) k44_5 (by decide) ?_
    refine q_invV (pc := 7) (As := [.int (-4)]) (st := []) k44_7 lm44_100 ov72 rfl rfl rfl (q_cat rfl) (Nat.le_of_ble_eq_true rfl) hd h ?_
    rintro v M8 ⟨r9, rfl, h⟩
    show q_Ex X d 44 (7 + 3) [some (.ref 0), some (.int a1)] [.int r9] M8 _
    exact q_ireturn (pc := 10) k44_10 rfl ⟨_, rfl, h⟩
set_option maxRecDepth 20000 in
theorem vc45 {X : Nat × (Nat → Int32)} {d : Nat} (hd : 0 < d) {M : q_M} {K : Int32 → q_M → Prop} (h : q_Ci X (d - 1) 16 [.ref 3, .ref 1, .int (M 0 1)] M (fun r2 M1 => ((r2 = 0) → (q_Cv X (d - 1) 4 [.ref 10, .ref 3, .int ((M1 0 14) + 1)] (q_set (q_set M1 0 1 0) 0 14 ((M1 0 14) + 1)) (fun M4 => K (M4 11 2) (q_set M4 0 16 (-1))))) ∧ ((¬ r2 = 0) → (K r2 (q_set M1 0 1 0))))) : q_Ci X d 45 [.ref 0] M K := by
  show q_Ex X d 45 0 [some (.ref 0), none] [] M (q_ri K)
  refine q_aload_n (pc := 0) k45_0 rfl ?_
  refine q_getR (pc := 1) k45_1 fg45_19 rfl rfl ?_
  refine q_aload_n (pc := 4) k45_4 rfl ?_
  refine q_getR (pc := 5) k45_5 fg45_9 rfl rfl ?_
  refine q_aload_n (pc := 8) k45_8 rfl ?_
  refine q_getIv (pc := 9) (v := M 0 1) k45_9 fg45_104 rfl rfl rfl ?_
  refine q_invV (pc := 12) (As := [.ref 1, .int (M 0 1)]) (st := []) k45_12 lm45_107 ov16 rfl rfl rfl (q_cat rfl) (Nat.le_of_ble_eq_true rfl) hd h ?_
  rintro v M1 ⟨r2, rfl, h⟩
  show q_Ex X d 45 (12 + 3) [some (.ref 0), none] [.int r2] M1 _
  refine q_istore_n (pc := 15) [some (.ref 0), some (.int r2)] k45_15 rfl (by decide) rfl ?_
  refine q_aload_n (pc := 16) k45_16 rfl ?_
  refine q_iconst (pc := 17) (v := 0) k45_17 (by decide) ?_
  refine q_putI (pc := 18) k45_18 fp45_104 rfl rfl ?_
  refine q_iload_n (pc := 21) k45_21 rfl ?_
  refine q_if_eq (pc := 22) 27 k45_22 (by decide) (fun g3 => ?_) (fun g3 => ?_)
  · replace h := h.1 g3
    refine q_aload_n (pc := 27) k45_27 rfl ?_
    refine q_dup (pc := 28) k45_28 rfl ?_
    refine q_getIv (pc := 29) (v := M1 0 14) k45_29 fg45_111 rfl rfl rfl ?_
    refine q_iconst (pc := 32) (v := 1) k45_32 (by decide) ?_
    refine q_iadd (pc := 33) k45_33 ?_
    refine q_putI (pc := 34) k45_34 fp45_111 rfl rfl ?_
    refine q_aload_n (pc := 37) k45_37 rfl ?_
    refine q_getR (pc := 38) k45_38 fg45_26 rfl rfl ?_
    refine q_aload_n (pc := 41) k45_41 rfl ?_
    refine q_getR (pc := 42) k45_42 fg45_19 rfl rfl ?_
    refine q_aload_n (pc := 45) k45_45 rfl ?_
    refine q_getIv (pc := 46) (v := (M1 0 14) + 1) k45_46 fg45_111 rfl rfl rfl ?_
    refine q_invV (pc := 49) (As := [.ref 3, .int ((M1 0 14) + 1)]) (st := []) k45_49 lm45_114 ov4 rfl rfl rfl (q_cat rfl) (Nat.le_of_ble_eq_true rfl) hd h ?_
    rintro v M4 ⟨rfl, h⟩
    show q_Ex X d 45 (49 + 3) [some (.ref 0), some (.int r2)] [] M4 _
    refine q_aload_n (pc := 52) k45_52 rfl ?_
    refine q_iconst (pc := 53) (v := (-1)) k45_53 (by decide) ?_
    refine q_putI (pc := 54) k45_54 fp45_58 rfl rfl ?_
    refine q_aload_n (pc := 57) k45_57 rfl ?_
    refine q_getR (pc := 58) k45_58 fg45_26 rfl rfl ?_
    refine q_getR (pc := 61) k45_61 fg45_63 rfl rfl ?_
    refine q_getIv (pc := 64) (v := M4 11 2) k45_64 fg45_118 rfl rfl rfl ?_
    exact q_ireturn (pc := 67) k45_67 rfl ⟨_, rfl, h⟩
  · replace h := h.2 g3
    refine q_iload_n (pc := 25) k45_25 rfl ?_
    exact q_ireturn (pc := 26) k45_26 rfl ⟨_, rfl, h⟩
set_option maxRecDepth 20000 in
theorem vc46 {X : Nat × (Nat → Int32)} {d : Nat} (hd : 0 < d) {M : q_M} {a1 a2 : Int32} {K : Int32 → q_M → Prop} (h : q_Ci X (d - 1) 23 [.ref 11, .int a1] M (fun r2 M1 => ((¬ r2 = 0) → ((a2 = 0 → (vp_in a1 30 ∧ (K (M1 12 (Int32.toNatClampNeg a1)) M1))) ∧ (a2 = 1 → (vp_in a1 30 ∧ (K (M1 13 (Int32.toNatClampNeg a1)) M1))) ∧ (a2 = 2 → (vp_in a1 30 ∧ (K (M1 14 (Int32.toNatClampNeg a1)) M1))) ∧ ((¬ a2 = 0 ∧ ¬ a2 = 1 ∧ ¬ a2 = 2) → (q_Ci X (d - 1) 72 [.ref 0, .int (-2)] M1 (fun r5 M4 => K r5 M4))))) ∧ ((r2 = 0) → (q_Ci X (d - 1) 72 [.ref 0, .int (-1)] M1 (fun r7 M6 => K r7 M6))))) : q_Ci X d 46 [.ref 0, .int a1, .int a2] M K := by
  show q_Ex X d 46 0 [some (.ref 0), some (.int a1), some (.int a2)] [] M (q_ri K)
  refine q_aload_n (pc := 0) k46_0 rfl ?_
  refine q_getR (pc := 1) k46_1 fg46_26 rfl rfl ?_
  refine q_getR (pc := 4) k46_4 fg46_63 rfl rfl ?_
  refine q_iload_n (pc := 7) k46_7 rfl ?_
  refine q_invV (pc := 8) (As := [.int a1]) (st := []) k46_8 lm46_121 ov23 rfl rfl rfl (q_cat rfl) (Nat.le_of_ble_eq_true rfl) hd h ?_
  rintro v M1 ⟨r2, rfl, h⟩
  show q_Ex X d 46 (8 + 3) [some (.ref 0), some (.int a1), some (.int a2)] [.int r2] M1 _
  refine q_if_ne (pc := 11) 20 k46_11 (by decide) (fun g3 => ?_) (fun g3 => ?_)
  · replace h := h.1 g3
    refine q_iload_n (pc := 20) k46_20 rfl ?_
    obtain ⟨e0, e1, e2, e999⟩ := h
    by_cases g0 : a2 = 0
    · have h := e0 g0
      refine q_tsIn (pc := 21) 48 k46_21 (off := 27) (by rw [g0]; decide) (by rw [g0]; decide) (by rw [g0]; rfl) (by decide) ?_
      refine q_aload_n (pc := 48) k46_48 rfl ?_
      refine q_getR (pc := 49) k46_49 fg46_26 rfl rfl ?_
      refine q_getR (pc := 52) k46_52 fg46_63 rfl rfl ?_
      refine q_getR (pc := 55) k46_55 fg46_125 rfl rfl ?_
      refine q_iload_n (pc := 58) k46_58 rfl ?_
      refine q_ialdv (pc := 59) (v := M1 12 (Int32.toNatClampNeg a1)) k46_59 rfl h.1 rfl ?_
      replace h := h.2
      exact q_ireturn (pc := 60) k46_60 rfl ⟨_, rfl, h⟩
    by_cases g1 : a2 = 1
    · have h := e1 g1
      refine q_tsIn (pc := 21) 61 k46_21 (off := 40) (by rw [g1]; decide) (by rw [g1]; decide) (by rw [g1]; rfl) (by decide) ?_
      refine q_aload_n (pc := 61) k46_61 rfl ?_
      refine q_getR (pc := 62) k46_62 fg46_26 rfl rfl ?_
      refine q_getR (pc := 65) k46_65 fg46_63 rfl rfl ?_
      refine q_getR (pc := 68) k46_68 fg46_128 rfl rfl ?_
      refine q_iload_n (pc := 71) k46_71 rfl ?_
      refine q_ialdv (pc := 72) (v := M1 13 (Int32.toNatClampNeg a1)) k46_72 rfl h.1 rfl ?_
      replace h := h.2
      exact q_ireturn (pc := 73) k46_73 rfl ⟨_, rfl, h⟩
    by_cases g2 : a2 = 2
    · have h := e2 g2
      refine q_tsIn (pc := 21) 74 k46_21 (off := 53) (by rw [g2]; decide) (by rw [g2]; decide) (by rw [g2]; rfl) (by decide) ?_
      refine q_aload_n (pc := 74) k46_74 rfl ?_
      refine q_getR (pc := 75) k46_75 fg46_26 rfl rfl ?_
      refine q_getR (pc := 78) k46_78 fg46_63 rfl rfl ?_
      refine q_getR (pc := 81) k46_81 fg46_131 rfl rfl ?_
      refine q_iload_n (pc := 84) k46_84 rfl ?_
      refine q_ialdv (pc := 85) (v := M1 14 (Int32.toNatClampNeg a1)) k46_85 rfl h.1 rfl ?_
      replace h := h.2
      exact q_ireturn (pc := 86) k46_86 rfl ⟨_, rfl, h⟩
    have h := e999 ⟨g0, g1, g2⟩
    refine q_tsOut (pc := 21) 87 k46_21 (by have i0 := lv_neT g0 (a := 0) rfl; have i1 := lv_neT g1 (a := 1) rfl; have i2 := lv_neT g2 (a := 2) rfl; omega) (by decide) ?_
    refine q_aload_n (pc := 87) k46_87 rfl ?_
    refine q_bipush (pc := 88) (v := (-2)) k46_88 (by decide) ?_
    refine q_invV (pc := 90) (As := [.int (-2)]) (st := []) k46_90 lm46_100 ov72 rfl rfl rfl (q_cat rfl) (Nat.le_of_ble_eq_true rfl) hd h ?_
    rintro v M4 ⟨r5, rfl, h⟩
    show q_Ex X d 46 (90 + 3) [some (.ref 0), some (.int a1), some (.int a2)] [.int r5] M4 _
    exact q_ireturn (pc := 93) k46_93 rfl ⟨_, rfl, h⟩
  · replace h := h.2 g3
    refine q_aload_n (pc := 14) k46_14 rfl ?_
    refine q_iconst (pc := 15) (v := (-1)) k46_15 (by decide) ?_
    refine q_invV (pc := 16) (As := [.int (-1)]) (st := []) k46_16 lm46_100 ov72 rfl rfl rfl (q_cat rfl) (Nat.le_of_ble_eq_true rfl) hd h ?_
    rintro v M6 ⟨r7, rfl, h⟩
    show q_Ex X d 46 (16 + 3) [some (.ref 0), some (.int a1), some (.int a2)] [.int r7] M6 _
    exact q_ireturn (pc := 19) k46_19 rfl ⟨_, rfl, h⟩
set_option maxRecDepth 20000 in
theorem vc47 {X : Nat × (Nat → Int32)} {d : Nat} (hd : 0 < d) {M : q_M} {a1 : Int32} {K : Int32 → q_M → Prop} (h : ((a1 < 0) → (q_Ci X (d - 1) 72 [.ref 0, .int (-2)] M (fun r3 M2 => K r3 M2))) ∧ ((¬ a1 < 0) → (((a1 < 5) → (K (M 10 2) (q_set (q_set M 10 2 a1) 0 16 (-1)))) ∧ ((¬ a1 < 5) → (q_Ci X (d - 1) 72 [.ref 0, .int (-2)] M (fun r6 M5 => K r6 M5)))))) : q_Ci X d 47 [.ref 0, .int a1] M K := by
  show q_Ex X d 47 0 [some (.ref 0), some (.int a1), none] [] M (q_ri K)
  refine q_iload_n (pc := 0) k47_0 rfl ?_
  refine q_if_lt (pc := 1) 9 k47_1 (by decide) (fun g1 => ?_) (fun g1 => ?_)
  · replace h := h.1 g1
    refine q_aload_n (pc := 9) k47_9 rfl ?_
    refine q_bipush (pc := 10) (v := (-2)) k47_10 (by decide) ?_
    refine q_invV (pc := 12) (As := [.int (-2)]) (st := []) k47_12 lm47_100 ov72 rfl rfl rfl (q_cat rfl) (Nat.le_of_ble_eq_true rfl) hd h ?_
    rintro v M2 ⟨r3, rfl, h⟩
    show q_Ex X d 47 (12 + 3) [some (.ref 0), some (.int a1), none] [.int r3] M2 _
    exact q_ireturn (pc := 15) k47_15 rfl ⟨_, rfl, h⟩
  · replace h := h.2 g1
    refine q_iload_n (pc := 4) k47_4 rfl ?_
    refine q_iconst (pc := 5) (v := 5) k47_5 (by decide) ?_
    refine q_icmp_lt (pc := 6) 16 k47_6 (by decide) (fun g4 => ?_) (fun g4 => ?_)
    · replace h := h.1 g4
      refine q_aload_n (pc := 16) k47_16 rfl ?_
      refine q_getR (pc := 17) k47_17 fg47_26 rfl rfl ?_
      refine q_getIv (pc := 20) (v := M 10 2) k47_20 fg47_134 rfl rfl rfl ?_
      refine q_istore_n (pc := 23) [some (.ref 0), some (.int a1), some (.int (M 10 2))] k47_23 rfl (by decide) rfl ?_
      refine q_aload_n (pc := 24) k47_24 rfl ?_
      refine q_getR (pc := 25) k47_25 fg47_26 rfl rfl ?_
      refine q_iload_n (pc := 28) k47_28 rfl ?_
      refine q_putI (pc := 29) k47_29 fp47_134 rfl rfl ?_
      refine q_aload_n (pc := 32) k47_32 rfl ?_
      refine q_iconst (pc := 33) (v := (-1)) k47_33 (by decide) ?_
      refine q_putI (pc := 34) k47_34 fp47_58 rfl rfl ?_
      refine q_iload_n (pc := 37) k47_37 rfl ?_
      exact q_ireturn (pc := 38) k47_38 rfl ⟨_, rfl, h⟩
    · replace h := h.2 g4
      refine q_aload_n (pc := 9) k47_9 rfl ?_
      refine q_bipush (pc := 10) (v := (-2)) k47_10 (by decide) ?_
      refine q_invV (pc := 12) (As := [.int (-2)]) (st := []) k47_12 lm47_100 ov72 rfl rfl rfl (q_cat rfl) (Nat.le_of_ble_eq_true rfl) hd h ?_
      rintro v M5 ⟨r6, rfl, h⟩
      show q_Ex X d 47 (12 + 3) [some (.ref 0), some (.int a1), none] [.int r6] M5 _
      exact q_ireturn (pc := 15) k47_15 rfl ⟨_, rfl, h⟩
set_option maxRecDepth 20000 in
theorem vc48 {X : Nat × (Nat → Int32)} {d : Nat} (hd : 0 < d) {M : q_M} {a1 : Int32} {K : Int32 → q_M → Prop} (h : q_Ci X (d - 1) 73 [.ref 0] M (fun r2 M1 => ((¬ r2 = 0) → (q_Ci X (d - 1) 87 [.int a1, .int (M1 11 4)] M1 (fun r5 M4 => ((0 ≤ r5) → (K (M4 10 3) (q_set (q_set M4 10 3 a1) 0 16 (-1)))) ∧ ((¬ 0 ≤ r5) → (q_Ci X (d - 1) 72 [.ref 0, .int (-1)] M4 (fun r8 M7 => K r8 M7)))))) ∧ ((r2 = 0) → (q_Ci X (d - 1) 72 [.ref 0, .int (-3)] M1 (fun r10 M9 => K r10 M9))))) : q_Ci X d 48 [.ref 0, .int a1] M K := by
  show q_Ex X d 48 0 [some (.ref 0), some (.int a1), none] [] M (q_ri K)
  refine q_aload_n (pc := 0) k48_0 rfl ?_
  refine q_invV (pc := 1) (As := []) (st := []) k48_1 lm48_137 ov73 rfl rfl rfl (q_cat rfl) (Nat.le_of_ble_eq_true rfl) hd h ?_
  rintro v M1 ⟨r2, rfl, h⟩
  show q_Ex X d 48 (1 + 3) [some (.ref 0), some (.int a1), none] [.int r2] M1 _
  refine q_if_ne (pc := 4) 14 k48_4 (by decide) (fun g3 => ?_) (fun g3 => ?_)
  · replace h := h.1 g3
    refine q_iload_n (pc := 14) k48_14 rfl ?_
    refine q_aload_n (pc := 15) k48_15 rfl ?_
    refine q_getR (pc := 16) k48_16 fg48_26 rfl rfl ?_
    refine q_getR (pc := 19) k48_19 fg48_63 rfl rfl ?_
    refine q_getIv (pc := 22) (v := M1 11 4) k48_22 fg48_141 rfl rfl rfl ?_
    refine q_invS (pc := 25) (As := [.int a1, .int (M1 11 4)]) (st := []) k48_25 lm48_144 os87 rfl rfl (q_cat rfl) (Nat.le_of_ble_eq_true rfl) hd h ?_
    rintro v M4 ⟨r5, rfl, h⟩
    show q_Ex X d 48 (25 + 3) [some (.ref 0), some (.int a1), none] [.int r5] M4 _
    refine q_if_ge (pc := 28) 37 k48_28 (by decide) (fun g6 => ?_) (fun g6 => ?_)
    · replace h := h.1 g6
      refine q_aload_n (pc := 37) k48_37 rfl ?_
      refine q_getR (pc := 38) k48_38 fg48_26 rfl rfl ?_
      refine q_getIv (pc := 41) (v := M4 10 3) k48_41 fg48_148 rfl rfl rfl ?_
      refine q_istore_n (pc := 44) [some (.ref 0), some (.int a1), some (.int (M4 10 3))] k48_44 rfl (by decide) rfl ?_
      refine q_aload_n (pc := 45) k48_45 rfl ?_
      refine q_getR (pc := 46) k48_46 fg48_26 rfl rfl ?_
      refine q_iload_n (pc := 49) k48_49 rfl ?_
      refine q_putI (pc := 50) k48_50 fp48_148 rfl rfl ?_
      refine q_aload_n (pc := 53) k48_53 rfl ?_
      refine q_iconst (pc := 54) (v := (-1)) k48_54 (by decide) ?_
      refine q_putI (pc := 55) k48_55 fp48_58 rfl rfl ?_
      refine q_iload_n (pc := 58) k48_58 rfl ?_
      exact q_ireturn (pc := 59) k48_59 rfl ⟨_, rfl, h⟩
    · replace h := h.2 g6
      refine q_aload_n (pc := 31) k48_31 rfl ?_
      refine q_iconst (pc := 32) (v := (-1)) k48_32 (by decide) ?_
      refine q_invV (pc := 33) (As := [.int (-1)]) (st := []) k48_33 lm48_100 ov72 rfl rfl rfl (q_cat rfl) (Nat.le_of_ble_eq_true rfl) hd h ?_
      rintro v M7 ⟨r8, rfl, h⟩
      show q_Ex X d 48 (33 + 3) [some (.ref 0), some (.int a1), none] [.int r8] M7 _
      exact q_ireturn (pc := 36) k48_36 rfl ⟨_, rfl, h⟩
  · replace h := h.2 g3
    refine q_aload_n (pc := 7) k48_7 rfl ?_
    refine q_bipush (pc := 8) (v := (-3)) k48_8 (by decide) ?_
    refine q_invV (pc := 10) (As := [.int (-3)]) (st := []) k48_10 lm48_100 ov72 rfl rfl rfl (q_cat rfl) (Nat.le_of_ble_eq_true rfl) hd h ?_
    rintro v M9 ⟨r10, rfl, h⟩
    show q_Ex X d 48 (10 + 3) [some (.ref 0), some (.int a1), none] [.int r10] M9 _
    exact q_ireturn (pc := 13) k48_13 rfl ⟨_, rfl, h⟩
set_option maxRecDepth 20000 in
theorem vc49 {X : Nat × (Nat → Int32)} {d : Nat} (hd : 0 < d) {M : q_M} {a1 a2 : Int32} {K : Int32 → q_M → Prop} (h : q_Ci X (d - 1) 24 [.ref 11, .int a1] M (fun r2 M1 => ((r2 = 0) → (q_Ci X (d - 1) 72 [.ref 0, .int (-1)] M1 (fun r5 M4 => K r5 M4))) ∧ ((¬ r2 = 0) → (q_Ci X (d - 1) 24 [.ref 11, .int a2] M1 (fun r7 M6 => ((¬ r7 = 0) → (q_Ci X (d - 1) 28 [.ref 11, .int a1, .int a2] M6 (fun r10 M9 => K r10 M9))) ∧ ((r7 = 0) → (q_Ci X (d - 1) 72 [.ref 0, .int (-1)] M6 (fun r12 M11 => K r12 M11)))))))) : q_Ci X d 49 [.ref 0, .int a1, .int a2] M K := by
  show q_Ex X d 49 0 [some (.ref 0), some (.int a1), some (.int a2)] [] M (q_ri K)
  refine q_aload_n (pc := 0) k49_0 rfl ?_
  refine q_getR (pc := 1) k49_1 fg49_26 rfl rfl ?_
  refine q_getR (pc := 4) k49_4 fg49_63 rfl rfl ?_
  refine q_iload_n (pc := 7) k49_7 rfl ?_
  refine q_invV (pc := 8) (As := [.int a1]) (st := []) k49_8 lm49_151 ov24 rfl rfl rfl (q_cat rfl) (Nat.le_of_ble_eq_true rfl) hd h ?_
  rintro v M1 ⟨r2, rfl, h⟩
  show q_Ex X d 49 (8 + 3) [some (.ref 0), some (.int a1), some (.int a2)] [.int r2] M1 _
  refine q_if_eq (pc := 11) 28 k49_11 (by decide) (fun g3 => ?_) (fun g3 => ?_)
  · replace h := h.1 g3
    refine q_aload_n (pc := 28) k49_28 rfl ?_
    refine q_iconst (pc := 29) (v := (-1)) k49_29 (by decide) ?_
    refine q_invV (pc := 30) (As := [.int (-1)]) (st := []) k49_30 lm49_100 ov72 rfl rfl rfl (q_cat rfl) (Nat.le_of_ble_eq_true rfl) hd h ?_
    rintro v M4 ⟨r5, rfl, h⟩
    show q_Ex X d 49 (30 + 3) [some (.ref 0), some (.int a1), some (.int a2)] [.int r5] M4 _
    exact q_ireturn (pc := 33) k49_33 rfl ⟨_, rfl, h⟩
  · replace h := h.2 g3
    refine q_aload_n (pc := 14) k49_14 rfl ?_
    refine q_getR (pc := 15) k49_15 fg49_26 rfl rfl ?_
    refine q_getR (pc := 18) k49_18 fg49_63 rfl rfl ?_
    refine q_iload_n (pc := 21) k49_21 rfl ?_
    refine q_invV (pc := 22) (As := [.int a2]) (st := []) k49_22 lm49_151 ov24 rfl rfl rfl (q_cat rfl) (Nat.le_of_ble_eq_true rfl) hd h ?_
    rintro v M6 ⟨r7, rfl, h⟩
    show q_Ex X d 49 (22 + 3) [some (.ref 0), some (.int a1), some (.int a2)] [.int r7] M6 _
    refine q_if_ne (pc := 25) 34 k49_25 (by decide) (fun g8 => ?_) (fun g8 => ?_)
    · replace h := h.1 g8
      refine q_aload_n (pc := 34) k49_34 rfl ?_
      refine q_getR (pc := 35) k49_35 fg49_26 rfl rfl ?_
      refine q_getR (pc := 38) k49_38 fg49_63 rfl rfl ?_
      refine q_iload_n (pc := 41) k49_41 rfl ?_
      refine q_iload_n (pc := 42) k49_42 rfl ?_
      refine q_invV (pc := 43) (As := [.int a1, .int a2]) (st := []) k49_43 lm49_154 ov28 rfl rfl rfl (q_cat rfl) (Nat.le_of_ble_eq_true rfl) hd h ?_
      rintro v M9 ⟨r10, rfl, h⟩
      show q_Ex X d 49 (43 + 3) [some (.ref 0), some (.int a1), some (.int a2)] [.int r10] M9 _
      exact q_ireturn (pc := 46) k49_46 rfl ⟨_, rfl, h⟩
    · replace h := h.2 g8
      refine q_aload_n (pc := 28) k49_28 rfl ?_
      refine q_iconst (pc := 29) (v := (-1)) k49_29 (by decide) ?_
      refine q_invV (pc := 30) (As := [.int (-1)]) (st := []) k49_30 lm49_100 ov72 rfl rfl rfl (q_cat rfl) (Nat.le_of_ble_eq_true rfl) hd h ?_
      rintro v M11 ⟨r12, rfl, h⟩
      show q_Ex X d 49 (30 + 3) [some (.ref 0), some (.int a1), some (.int a2)] [.int r12] M11 _
      exact q_ireturn (pc := 33) k49_33 rfl ⟨_, rfl, h⟩
set_option maxRecDepth 20000 in
theorem vc50 {X : Nat × (Nat → Int32)} {d : Nat} (hd : 0 < d) {M : q_M} {K : Int32 → q_M → Prop} (h : q_Ci X (d - 1) 73 [.ref 0] M (fun r2 M1 => ((¬ r2 = 0) → (q_Ci X (d - 1) 77 [.ref 0] M1 (fun r5 M4 => K r5 M4))) ∧ ((r2 = 0) → (q_Ci X (d - 1) 72 [.ref 0, .int (-3)] M1 (fun r7 M6 => K r7 M6))))) : q_Ci X d 50 [.ref 0] M K := by
  show q_Ex X d 50 0 [some (.ref 0)] [] M (q_ri K)
  refine q_aload_n (pc := 0) k50_0 rfl ?_
  refine q_invV (pc := 1) (As := []) (st := []) k50_1 lm50_137 ov73 rfl rfl rfl (q_cat rfl) (Nat.le_of_ble_eq_true rfl) hd h ?_
  rintro v M1 ⟨r2, rfl, h⟩
  show q_Ex X d 50 (1 + 3) [some (.ref 0)] [.int r2] M1 _
  refine q_if_ne (pc := 4) 14 k50_4 (by decide) (fun g3 => ?_) (fun g3 => ?_)
  · replace h := h.1 g3
    refine q_aload_n (pc := 14) k50_14 rfl ?_
    refine q_invV (pc := 15) (As := []) (st := []) k50_15 lm50_157 ov77 rfl rfl rfl (q_cat rfl) (Nat.le_of_ble_eq_true rfl) hd h ?_
    rintro v M4 ⟨r5, rfl, h⟩
    show q_Ex X d 50 (15 + 3) [some (.ref 0)] [.int r5] M4 _
    exact q_ireturn (pc := 18) k50_18 rfl ⟨_, rfl, h⟩
  · replace h := h.2 g3
    refine q_aload_n (pc := 7) k50_7 rfl ?_
    refine q_bipush (pc := 8) (v := (-3)) k50_8 (by decide) ?_
    refine q_invV (pc := 10) (As := [.int (-3)]) (st := []) k50_10 lm50_100 ov72 rfl rfl rfl (q_cat rfl) (Nat.le_of_ble_eq_true rfl) hd h ?_
    rintro v M6 ⟨r7, rfl, h⟩
    show q_Ex X d 50 (10 + 3) [some (.ref 0)] [.int r7] M6 _
    exact q_ireturn (pc := 13) k50_13 rfl ⟨_, rfl, h⟩
set_option maxRecDepth 20000 in
theorem vc51 {X : Nat × (Nat → Int32)} {d : Nat} (hd : 0 < d) {M : q_M} {K : Int32 → q_M → Prop} (h : q_Ci X (d - 1) 73 [.ref 0] M (fun r2 M1 => ((¬ r2 = 0) → (q_Ci X (d - 1) 79 [.ref 0, .int 0, .int 0] M1 (fun r5 M4 => K r5 M4))) ∧ ((r2 = 0) → (q_Ci X (d - 1) 72 [.ref 0, .int (-3)] M1 (fun r7 M6 => K ((1000000000 : Int32) - r7) M6))))) : q_Ci X d 51 [.ref 0] M K := by
  show q_Ex X d 51 0 [some (.ref 0)] [] M (q_ri K)
  refine q_aload_n (pc := 0) k51_0 rfl ?_
  refine q_invV (pc := 1) (As := []) (st := []) k51_1 lm51_137 ov73 rfl rfl rfl (q_cat rfl) (Nat.le_of_ble_eq_true rfl) hd h ?_
  rintro v M1 ⟨r2, rfl, h⟩
  show q_Ex X d 51 (1 + 3) [some (.ref 0)] [.int r2] M1 _
  refine q_if_ne (pc := 4) 17 k51_4 (by decide) (fun g3 => ?_) (fun g3 => ?_)
  · replace h := h.1 g3
    refine q_aload_n (pc := 17) k51_17 rfl ?_
    refine q_iconst (pc := 18) (v := 0) k51_18 (by decide) ?_
    refine q_iconst (pc := 19) (v := 0) k51_19 (by decide) ?_
    refine q_invV (pc := 20) (As := [.int 0, .int 0]) (st := []) k51_20 lm51_162 ov79 rfl rfl rfl (q_cat rfl) (Nat.le_of_ble_eq_true rfl) hd h ?_
    rintro v M4 ⟨r5, rfl, h⟩
    show q_Ex X d 51 (20 + 3) [some (.ref 0)] [.int r5] M4 _
    exact q_ireturn (pc := 23) k51_23 rfl ⟨_, rfl, h⟩
  · replace h := h.2 g3
    refine q_ldc (pc := 7) (v := 1000000000) k51_7 ld51_161 ?_
    refine q_aload_n (pc := 9) k51_9 rfl ?_
    refine q_bipush (pc := 10) (v := (-3)) k51_10 (by decide) ?_
    refine q_invV (pc := 12) (As := [.int (-3)]) (st := [.int 1000000000]) k51_12 lm51_100 ov72 rfl rfl rfl (q_cat rfl) (Nat.le_of_ble_eq_true rfl) hd h ?_
    rintro v M6 ⟨r7, rfl, h⟩
    show q_Ex X d 51 (12 + 3) [some (.ref 0)] [.int r7, .int 1000000000] M6 _
    refine q_isub (pc := 15) k51_15 ?_
    exact q_ireturn (pc := 16) k51_16 rfl ⟨_, rfl, h⟩
set_option maxRecDepth 20000 in
theorem vc52 {X : Nat × (Nat → Int32)} {d : Nat} (hd : 0 < d) {M : q_M} {K : Int32 → q_M → Prop} (h : q_Ci X (d - 1) 73 [.ref 0] M (fun r2 M1 => ((¬ r2 = 0) → (q_Ci X (d - 1) 85 [.int (M1 11 4)] M1 (fun r5 M4 => q_Ex X d 52 34 [some (.ref 0), some (.int (M1 11 4)), some (.int 0), some (.int (r5 + 1))] [] M4 (q_ri K)))) ∧ ((r2 = 0) → (q_Ci X (d - 1) 72 [.ref 0, .int (-3)] M1 (fun r7 M6 => K r7 M6))))) : q_Ci X d 52 [.ref 0] M K := by
  show q_Ex X d 52 0 [some (.ref 0), none, none, none] [] M (q_ri K)
  refine q_aload_n (pc := 0) k52_0 rfl ?_
  refine q_invV (pc := 1) (As := []) (st := []) k52_1 lm52_137 ov73 rfl rfl rfl (q_cat rfl) (Nat.le_of_ble_eq_true rfl) hd h ?_
  rintro v M1 ⟨r2, rfl, h⟩
  show q_Ex X d 52 (1 + 3) [some (.ref 0), none, none, none] [.int r2] M1 _
  refine q_if_ne (pc := 4) 14 k52_4 (by decide) (fun g3 => ?_) (fun g3 => ?_)
  · replace h := h.1 g3
    refine q_aload_n (pc := 14) k52_14 rfl ?_
    refine q_getR (pc := 15) k52_15 fg52_26 rfl rfl ?_
    refine q_getR (pc := 18) k52_18 fg52_63 rfl rfl ?_
    refine q_getIv (pc := 21) (v := M1 11 4) k52_21 fg52_141 rfl rfl rfl ?_
    refine q_istore_n (pc := 24) [some (.ref 0), some (.int (M1 11 4)), none, none] k52_24 rfl (by decide) rfl ?_
    refine q_iconst (pc := 25) (v := 0) k52_25 (by decide) ?_
    refine q_istore_n (pc := 26) [some (.ref 0), some (.int (M1 11 4)), some (.int 0), none] k52_26 rfl (by decide) rfl ?_
    refine q_iload_n (pc := 27) k52_27 rfl ?_
    refine q_invS (pc := 28) (As := [.int (M1 11 4)]) (st := []) k52_28 lm52_165 os85 rfl rfl (q_cat rfl) (Nat.le_of_ble_eq_true rfl) hd h ?_
    rintro v M4 ⟨r5, rfl, h⟩
    show q_Ex X d 52 (28 + 3) [some (.ref 0), some (.int (M1 11 4)), some (.int 0), none] [.int r5] M4 _
    refine q_iconst (pc := 31) (v := 1) k52_31 (by decide) ?_
    refine q_iadd (pc := 32) k52_32 ?_
    refine q_istore_n (pc := 33) [some (.ref 0), some (.int (M1 11 4)), some (.int 0), some (.int (r5 + 1))] k52_33 rfl (by decide) rfl ?_
    exact h
  · replace h := h.2 g3
    refine q_aload_n (pc := 7) k52_7 rfl ?_
    refine q_bipush (pc := 8) (v := (-3)) k52_8 (by decide) ?_
    refine q_invV (pc := 10) (As := [.int (-3)]) (st := []) k52_10 lm52_100 ov72 rfl rfl rfl (q_cat rfl) (Nat.le_of_ble_eq_true rfl) hd h ?_
    rintro v M6 ⟨r7, rfl, h⟩
    show q_Ex X d 52 (10 + 3) [some (.ref 0), none, none, none] [.int r7] M6 _
    exact q_ireturn (pc := 13) k52_13 rfl ⟨_, rfl, h⟩
set_option maxRecDepth 20000 in
theorem vc52_p34 {X : Nat × (Nat → Int32)} {d : Nat} (hd : 0 < d) {M : q_M} {a1 a2 a3 : Int32} {K : Int32 → q_M → Prop} (h : q_Ci X (d - 1) 86 [.int a1] M (fun r2 M1 => ((r2 ≤ a3) → (q_Cr X (d - 1) 74 [.ref 0] M1 (fun r5 M4 => r5 = 64 ∧ (q_Ci X (d - 1) 35 [.ref 64, .int a2] M4 (fun r7 M6 => ((¬ r7 = 0) → (K 0 M6)) ∧ ((r7 = 0) → (K 1 M6))))))) ∧ ((¬ r2 ≤ a3) → (q_Ex X d 52 34 [some (.ref 0), some (.int a1), some (.int (a2 ||| ((1 : Int32) <<< (a3 &&& 31)))), some (.int (a3 + 1))] [] M1 (q_ri K))))) : q_Ex X d 52 34 [some (.ref 0), some (.int a1), some (.int a2), some (.int a3)] [] M (q_ri K) := by
  refine q_iload_n (pc := 34) k52_34 rfl ?_
  refine q_iload_n (pc := 35) k52_35 rfl ?_
  refine q_invS (pc := 36) (As := [.int a1]) (st := [.int a3]) k52_36 lm52_168 os86 rfl rfl (q_cat rfl) (Nat.le_of_ble_eq_true rfl) hd h ?_
  rintro v M1 ⟨r2, rfl, h⟩
  show q_Ex X d 52 (36 + 3) [some (.ref 0), some (.int a1), some (.int a2), some (.int a3)] [.int r2, .int a3] M1 _
  refine q_icmp_ge (pc := 39) 54 k52_39 (by decide) (fun g3 => ?_) (fun g3 => ?_)
  · replace h := h.1 g3
    refine q_aload_n (pc := 54) k52_54 rfl ?_
    refine q_invV (pc := 55) (As := []) (st := []) k52_55 lm52_171 ov74 rfl rfl rfl (q_cat rfl) (Nat.le_of_ble_eq_true rfl) hd h ?_
    rintro v M4 ⟨r5, rfl, rfl, h⟩
    show q_Ex X d 52 (55 + 3) [some (.ref 0), some (.int a1), some (.int a2), some (.int a3)] [.ref 64] M4 _
    refine q_iload_n (pc := 58) k52_58 rfl ?_
    refine q_invV (pc := 59) (As := [.int a2]) (st := []) k52_59 lm52_175 ov35 rfl rfl rfl (q_cat rfl) (Nat.le_of_ble_eq_true rfl) hd h ?_
    rintro v M6 ⟨r7, rfl, h⟩
    show q_Ex X d 52 (59 + 3) [some (.ref 0), some (.int a1), some (.int a2), some (.int a3)] [.int r7] M6 _
    refine q_if_ne (pc := 62) 69 k52_62 (by decide) (fun g8 => ?_) (fun g8 => ?_)
    · replace h := h.1 g8
      refine q_iconst (pc := 69) (v := 0) k52_69 (by decide) ?_
      exact q_ireturn (pc := 70) k52_70 rfl ⟨_, rfl, h⟩
    · replace h := h.2 g8
      refine q_iconst (pc := 65) (v := 1) k52_65 (by decide) ?_
      refine q_goto (pc := 66) 70 k52_66 (by decide) ?_
      exact q_ireturn (pc := 70) k52_70 rfl ⟨_, rfl, h⟩
  · replace h := h.2 g3
    refine q_iload_n (pc := 42) k52_42 rfl ?_
    refine q_iconst (pc := 43) (v := 1) k52_43 (by decide) ?_
    refine q_iload_n (pc := 44) k52_44 rfl ?_
    refine q_ishl (pc := 45) k52_45 ?_
    refine q_ior (pc := 46) k52_46 ?_
    refine q_istore_n (pc := 47) [some (.ref 0), some (.int a1), some (.int (a2 ||| ((1 : Int32) <<< (a3 &&& 31)))), some (.int a3)] k52_47 rfl (by decide) rfl ?_
    refine q_iinc (pc := 48) (v := a3 + 1) [some (.ref 0), some (.int a1), some (.int (a2 ||| ((1 : Int32) <<< (a3 &&& 31)))), some (.int (a3 + 1))] k52_48 rfl rfl rfl (by decide) rfl ?_
    refine q_goto (pc := 51) 34 k52_51 (by decide) ?_
    exact h
set_option maxRecDepth 20000 in
theorem vc53 {X : Nat × (Nat → Int32)} {d : Nat} (hd : 0 < d) {M : q_M} {a1 : Int32} {K : Int32 → q_M → Prop} (h : q_Ci X (d - 1) 73 [.ref 0] M (fun r2 M1 => ((¬ r2 = 0) → (q_Ci X (d - 1) 87 [.int a1, .int (M1 11 4)] M1 (fun r5 M4 => ((0 ≤ r5) → (q_Cr X (d - 1) 74 [.ref 0] M4 (fun r8 M7 => r8 = 64 ∧ (q_Ci X (d - 1) 35 [.ref 64, .int ((1 : Int32) <<< (r5 &&& 31))] M7 (fun r10 M9 => K r10 M9))))) ∧ ((¬ 0 ≤ r5) → (q_Ci X (d - 1) 72 [.ref 0, .int (-1)] M4 (fun r12 M11 => K r12 M11)))))) ∧ ((r2 = 0) → (q_Ci X (d - 1) 72 [.ref 0, .int (-3)] M1 (fun r14 M13 => K r14 M13))))) : q_Ci X d 53 [.ref 0, .int a1] M K := by
  show q_Ex X d 53 0 [some (.ref 0), some (.int a1), none] [] M (q_ri K)
  refine q_aload_n (pc := 0) k53_0 rfl ?_
  refine q_invV (pc := 1) (As := []) (st := []) k53_1 lm53_137 ov73 rfl rfl rfl (q_cat rfl) (Nat.le_of_ble_eq_true rfl) hd h ?_
  rintro v M1 ⟨r2, rfl, h⟩
  show q_Ex X d 53 (1 + 3) [some (.ref 0), some (.int a1), none] [.int r2] M1 _
  refine q_if_ne (pc := 4) 14 k53_4 (by decide) (fun g3 => ?_) (fun g3 => ?_)
  · replace h := h.1 g3
    refine q_iload_n (pc := 14) k53_14 rfl ?_
    refine q_aload_n (pc := 15) k53_15 rfl ?_
    refine q_getR (pc := 16) k53_16 fg53_26 rfl rfl ?_
    refine q_getR (pc := 19) k53_19 fg53_63 rfl rfl ?_
    refine q_getIv (pc := 22) (v := M1 11 4) k53_22 fg53_141 rfl rfl rfl ?_
    refine q_invS (pc := 25) (As := [.int a1, .int (M1 11 4)]) (st := []) k53_25 lm53_144 os87 rfl rfl (q_cat rfl) (Nat.le_of_ble_eq_true rfl) hd h ?_
    rintro v M4 ⟨r5, rfl, h⟩
    show q_Ex X d 53 (25 + 3) [some (.ref 0), some (.int a1), none] [.int r5] M4 _
    refine q_istore_n (pc := 28) [some (.ref 0), some (.int a1), some (.int r5)] k53_28 rfl (by decide) rfl ?_
    refine q_iload_n (pc := 29) k53_29 rfl ?_
    refine q_if_ge (pc := 30) 39 k53_30 (by decide) (fun g6 => ?_) (fun g6 => ?_)
    · replace h := h.1 g6
      refine q_aload_n (pc := 39) k53_39 rfl ?_
      refine q_invV (pc := 40) (As := []) (st := []) k53_40 lm53_171 ov74 rfl rfl rfl (q_cat rfl) (Nat.le_of_ble_eq_true rfl) hd h ?_
      rintro v M7 ⟨r8, rfl, rfl, h⟩
      show q_Ex X d 53 (40 + 3) [some (.ref 0), some (.int a1), some (.int r5)] [.ref 64] M7 _
      refine q_iconst (pc := 43) (v := 1) k53_43 (by decide) ?_
      refine q_iload_n (pc := 44) k53_44 rfl ?_
      refine q_ishl (pc := 45) k53_45 ?_
      refine q_invV (pc := 46) (As := [.int ((1 : Int32) <<< (r5 &&& 31))]) (st := []) k53_46 lm53_175 ov35 rfl rfl rfl (q_cat rfl) (Nat.le_of_ble_eq_true rfl) hd h ?_
      rintro v M9 ⟨r10, rfl, h⟩
      show q_Ex X d 53 (46 + 3) [some (.ref 0), some (.int a1), some (.int r5)] [.int r10] M9 _
      exact q_ireturn (pc := 49) k53_49 rfl ⟨_, rfl, h⟩
    · replace h := h.2 g6
      refine q_aload_n (pc := 33) k53_33 rfl ?_
      refine q_iconst (pc := 34) (v := (-1)) k53_34 (by decide) ?_
      refine q_invV (pc := 35) (As := [.int (-1)]) (st := []) k53_35 lm53_100 ov72 rfl rfl rfl (q_cat rfl) (Nat.le_of_ble_eq_true rfl) hd h ?_
      rintro v M11 ⟨r12, rfl, h⟩
      show q_Ex X d 53 (35 + 3) [some (.ref 0), some (.int a1), some (.int r5)] [.int r12] M11 _
      exact q_ireturn (pc := 38) k53_38 rfl ⟨_, rfl, h⟩
  · replace h := h.2 g3
    refine q_aload_n (pc := 7) k53_7 rfl ?_
    refine q_bipush (pc := 8) (v := (-3)) k53_8 (by decide) ?_
    refine q_invV (pc := 10) (As := [.int (-3)]) (st := []) k53_10 lm53_100 ov72 rfl rfl rfl (q_cat rfl) (Nat.le_of_ble_eq_true rfl) hd h ?_
    rintro v M13 ⟨r14, rfl, h⟩
    show q_Ex X d 53 (10 + 3) [some (.ref 0), some (.int a1), none] [.int r14] M13 _
    exact q_ireturn (pc := 13) k53_13 rfl ⟨_, rfl, h⟩
