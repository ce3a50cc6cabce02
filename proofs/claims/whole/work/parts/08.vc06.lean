set_option maxRecDepth 20000 in
theorem vc130 {X : Nat × (Nat → Int32)} {d : Nat} (hd : 0 < d) {M : q_M} {a1 : Int32} {K : Int32 → q_M → Prop} (h : q_Ci X (d - 1) 124 [.ref 97] M (fun r2 M1 => ((¬ r2 = 0) → (q_Ci X (d - 1) 108 [.ref 97, .int a1] M1 (fun r5 M4 => ((r5 = 0) → (q_Ci X (d - 1) 91 [.ref 97, .int (-1)] M4 (fun r8 M7 => K r8 M7))) ∧ ((¬ r5 = 0) → (q_Ci X (d - 1) 123 [.ref 97] M4 (fun r10 M9 => K r10 M9)))))) ∧ ((r2 = 0) → (q_Ci X (d - 1) 91 [.ref 97, .int (-3)] M1 (fun r12 M11 => K r12 M11))))) : q_Ci X d 130 [.ref 97, .int a1] M K := by
  show q_Ex X d 130 0 [some (.ref 97), some (.int a1), none] [] M (q_ri K)
  refine q_aload_n (pc := 0) k130_0 rfl ?_
  refine q_invV (pc := 1) (As := []) (st := []) k130_1 lm130_173 ov124 rfl rfl rfl (q_cat rfl) (Nat.le_of_ble_eq_true rfl) hd h ?_
  rintro v M1 ⟨r2, rfl, h⟩
  show q_Ex X d 130 (1 + 3) [some (.ref 97), some (.int a1), none] [.int r2] M1 _
  refine q_if_ne (pc := 4) 12 k130_4 (by decide) (fun g3 => ?_) (fun g3 => ?_)
  · replace h := h.1 g3
    refine q_aload_n (pc := 12) k130_12 rfl ?_
    refine q_iload_n (pc := 13) k130_13 rfl ?_
    refine q_invV (pc := 14) (As := [.int a1]) (st := []) k130_14 lm130_100 ov108 rfl rfl rfl (q_cat rfl) (Nat.le_of_ble_eq_true rfl) hd h ?_
    rintro v M4 ⟨r5, rfl, h⟩
    show q_Ex X d 130 (14 + 3) [some (.ref 97), some (.int a1), none] [.int r5] M4 _
    refine q_if_eq (pc := 17) 24 k130_17 (by decide) (fun g6 => ?_) (fun g6 => ?_)
    · replace h := h.1 g6
      refine q_iconst (pc := 24) (v := (-1)) k130_24 (by decide) ?_
      refine q_istore_n (pc := 25) [some (.ref 97), some (.int a1), some (.int (-1))] k130_25 rfl (by decide) rfl ?_
      refine q_iload_n (pc := 26) k130_26 rfl ?_
      refine q_if_eq (pc := 27) 38 k130_27 (by decide) (fun g => absurd g (by decide)) (fun _ => ?_)
      refine q_aload_n (pc := 30) k130_30 rfl ?_
      refine q_iload_n (pc := 31) k130_31 rfl ?_
      refine q_invV (pc := 32) (As := [.int (-1)]) (st := []) k130_32 lm130_80 ov91 rfl rfl rfl (q_cat rfl) (Nat.le_of_ble_eq_true rfl) hd h ?_
      rintro v M7 ⟨r8, rfl, h⟩
      show q_Ex X d 130 (32 + 3) [some (.ref 97), some (.int a1), some (.int (-1))] [.int r8] M7 _
      refine q_goto (pc := 35) 42 k130_35 (by decide) ?_
      exact q_ireturn (pc := 42) k130_42 rfl ⟨_, rfl, h⟩
    · replace h := h.2 g6
      refine q_iconst (pc := 20) (v := 0) k130_20 (by decide) ?_
      refine q_goto (pc := 21) 25 k130_21 (by decide) ?_
      refine q_istore_n (pc := 25) [some (.ref 97), some (.int a1), some (.int 0)] k130_25 rfl (by decide) rfl ?_
      refine q_iload_n (pc := 26) k130_26 rfl ?_
      refine q_if_eq (pc := 27) 38 k130_27 (by decide) (fun _ => ?_) (fun g => absurd g (by decide))
      refine q_aload_n (pc := 38) k130_38 rfl ?_
      refine q_invV (pc := 39) (As := []) (st := []) k130_39 lm130_184 ov123 rfl rfl rfl (q_cat rfl) (Nat.le_of_ble_eq_true rfl) hd h ?_
      rintro v M9 ⟨r10, rfl, h⟩
      show q_Ex X d 130 (39 + 3) [some (.ref 97), some (.int a1), some (.int 0)] [.int r10] M9 _
      exact q_ireturn (pc := 42) k130_42 rfl ⟨_, rfl, h⟩
  · replace h := h.2 g3
    refine q_bipush (pc := 7) (v := (-3)) k130_7 (by decide) ?_
    refine q_goto (pc := 9) 25 k130_9 (by decide) ?_
    refine q_istore_n (pc := 25) [some (.ref 97), some (.int a1), some (.int (-3))] k130_25 rfl (by decide) rfl ?_
    refine q_iload_n (pc := 26) k130_26 rfl ?_
    refine q_if_eq (pc := 27) 38 k130_27 (by decide) (fun g => absurd g (by decide)) (fun _ => ?_)
    refine q_aload_n (pc := 30) k130_30 rfl ?_
    refine q_iload_n (pc := 31) k130_31 rfl ?_
    refine q_invV (pc := 32) (As := [.int (-3)]) (st := []) k130_32 lm130_80 ov91 rfl rfl rfl (q_cat rfl) (Nat.le_of_ble_eq_true rfl) hd h ?_
    rintro v M11 ⟨r12, rfl, h⟩
    show q_Ex X d 130 (32 + 3) [some (.ref 97), some (.int a1), some (.int (-3))] [.int r12] M11 _
    refine q_goto (pc := 35) 42 k130_35 (by decide) ?_
    exact q_ireturn (pc := 42) k130_42 rfl ⟨_, rfl, h⟩
set_option maxRecDepth 20000 in
theorem vc131 {X : Nat × (Nat → Int32)} {d : Nat} (hd : 0 < d) {M : q_M} {K : Int32 → q_M → Prop} (h : q_Ci X (d - 1) 124 [.ref 97] M (fun r2 M1 => ((¬ r2 = 0) → (q_Cv X (d - 1) 122 [.ref 97, .int (-9)] M1 (fun M4 => K (M4 97 21) M4))) ∧ ((r2 = 0) → (q_Ci X (d - 1) 91 [.ref 97, .int (-3)] M1 (fun r6 M5 => K r6 M5))))) : q_Ci X d 131 [.ref 97] M K := by
  show q_Ex X d 131 0 [some (.ref 97)] [] M (q_ri K)
  refine q_aload_n (pc := 0) k131_0 rfl ?_
  refine q_invV (pc := 1) (As := []) (st := []) k131_1 lm131_173 ov124 rfl rfl rfl (q_cat rfl) (Nat.le_of_ble_eq_true rfl) hd h ?_
  rintro v M1 ⟨r2, rfl, h⟩
  show q_Ex X d 131 (1 + 3) [some (.ref 97)] [.int r2] M1 _
  refine q_if_ne (pc := 4) 14 k131_4 (by decide) (fun g3 => ?_) (fun g3 => ?_)
  · replace h := h.1 g3
    refine q_aload_n (pc := 14) k131_14 rfl ?_
    refine q_bipush (pc := 15) (v := (-9)) k131_15 (by decide) ?_
    refine q_invV (pc := 17) (As := [.int (-9)]) (st := []) k131_17 lm131_170 ov122 rfl rfl rfl (q_cat rfl) (Nat.le_of_ble_eq_true rfl) hd h ?_
    rintro v M4 ⟨rfl, h⟩
    show q_Ex X d 131 (17 + 3) [some (.ref 97)] [] M4 _
    refine q_aload_n (pc := 20) k131_20 rfl ?_
    refine q_getIv (pc := 21) (v := M4 97 21) k131_21 fg131_138 rfl rfl rfl ?_
    exact q_ireturn (pc := 24) k131_24 rfl ⟨_, rfl, h⟩
  · replace h := h.2 g3
    refine q_aload_n (pc := 7) k131_7 rfl ?_
    refine q_bipush (pc := 8) (v := (-3)) k131_8 (by decide) ?_
    refine q_invV (pc := 10) (As := [.int (-3)]) (st := []) k131_10 lm131_80 ov91 rfl rfl rfl (q_cat rfl) (Nat.le_of_ble_eq_true rfl) hd h ?_
    rintro v M5 ⟨r6, rfl, h⟩
    show q_Ex X d 131 (10 + 3) [some (.ref 97)] [.int r6] M5 _
    exact q_ireturn (pc := 13) k131_13 rfl ⟨_, rfl, h⟩
set_option maxRecDepth 20000 in
theorem vc132 {X : Nat × (Nat → Int32)} {d : Nat} (hd : 0 < d) {M : q_M} {a0 a1 : Int32} {K : Int32 → q_M → Prop} (h : ((¬ a1 = 0) → (¬ a1 = 0 ∧ (q_Ci X (d - 1) 132 [.int a1, .int (a0 - a0 / a1 * a1)] M (fun r3 M2 => K r3 M2)))) ∧ ((a1 = 0) → (K a0 M))) : q_Ci X d 132 [.int a0, .int a1] M K := by
  show q_Ex X d 132 0 [some (.int a0), some (.int a1)] [] M (q_ri K)
  refine q_iload_n (pc := 0) k132_0 rfl ?_
  refine q_if_ne (pc := 1) 8 k132_1 (by decide) (fun g1 => ?_) (fun g1 => ?_)
  · replace h := h.1 g1
    refine q_iload_n (pc := 8) k132_8 rfl ?_
    refine q_iload_n (pc := 9) k132_9 rfl ?_
    refine q_iload_n (pc := 10) k132_10 rfl ?_
    refine q_irem (pc := 11) k132_11 h.1 ?_
    replace h := h.2
    refine q_invS (pc := 12) (As := [.int a1, .int (a0 - a0 / a1 * a1)]) (st := []) k132_12 lm132_187 os132 rfl rfl (q_cat rfl) (Nat.le_of_ble_eq_true rfl) hd h ?_
    rintro v M2 ⟨r3, rfl, h⟩
    show q_Ex X d 132 (12 + 3) [some (.int a0), some (.int a1)] [.int r3] M2 _
    exact q_ireturn (pc := 15) k132_15 rfl ⟨_, rfl, h⟩
  · replace h := h.2 g1
    refine q_iload_n (pc := 4) k132_4 rfl ?_
    refine q_goto (pc := 5) 15 k132_5 (by decide) ?_
    exact q_ireturn (pc := 15) k132_15 rfl ⟨_, rfl, h⟩
set_option maxRecDepth 20000 in
theorem vc133 {X : Nat × (Nat → Int32)} {d : Nat} (hd : 0 < d) {M : q_M} {a1 a2 : Int32} {K : Int32 → q_M → Prop} (h : q_Ci X (d - 1) 96 [.ref 97, .int a1] M (fun r2 M1 => ((¬ r2 = 0) → (q_Ci X (d - 1) 92 [.int a2, .int 2] M1 (fun r5 M4 => ((¬ r5 = 0) → (q_Cv X (d - 1) 122 [.ref 97, .int (-9)] M4 (fun M7 => ((¬ (M7 97 20) = 0) → (vp_in a1 30 ∧ (q_Ci X (d - 1) 132 [.int (M7 97 20), .int (M7 112 (Int32.toNatClampNeg a1))] M7 (fun r10 M9 => ((¬ a2 = 0) → (¬ r10 = 0 ∧ (K ((M9 97 20) / r10) M9))) ∧ ((a2 = 0) → (vp_in a1 30 ∧ (¬ r10 = 0 ∧ (K ((M9 112 (Int32.toNatClampNeg a1)) / r10) M9)))))))) ∧ (((M7 97 20) = 0) → (K a2 M7))))) ∧ ((r5 = 0) → (q_Ci X (d - 1) 91 [.ref 97, .int (-2)] M4 (fun r13 M12 => K r13 M12)))))) ∧ ((r2 = 0) → (q_Ci X (d - 1) 91 [.ref 97, .int (-1)] M1 (fun r15 M14 => K r15 M14))))) : q_Ci X d 133 [.ref 97, .int a1, .int a2] M K := by
  show q_Ex X d 133 0 [some (.ref 97), some (.int a1), some (.int a2), none] [] M (q_ri K)
  refine q_aload_n (pc := 0) k133_0 rfl ?_
  refine q_iload_n (pc := 1) k133_1 rfl ?_
  refine q_invV (pc := 2) (As := [.int a1]) (st := []) k133_2 lm133_96 ov96 rfl rfl rfl (q_cat rfl) (Nat.le_of_ble_eq_true rfl) hd h ?_
  rintro v M1 ⟨r2, rfl, h⟩
  show q_Ex X d 133 (2 + 3) [some (.ref 97), some (.int a1), some (.int a2), none] [.int r2] M1 _
  refine q_if_ne (pc := 5) 14 k133_5 (by decide) (fun g3 => ?_) (fun g3 => ?_)
  · replace h := h.1 g3
    refine q_iload_n (pc := 14) k133_14 rfl ?_
    refine q_iconst (pc := 15) (v := 2) k133_15 (by decide) ?_
    refine q_invS (pc := 16) (As := [.int a2, .int 2]) (st := []) k133_16 lm133_68 os92 rfl rfl (q_cat rfl) (Nat.le_of_ble_eq_true rfl) hd h ?_
    rintro v M4 ⟨r5, rfl, h⟩
    show q_Ex X d 133 (16 + 3) [some (.ref 97), some (.int a1), some (.int a2), none] [.int r5] M4 _
    refine q_if_ne (pc := 19) 29 k133_19 (by decide) (fun g6 => ?_) (fun g6 => ?_)
    · replace h := h.1 g6
      refine q_aload_n (pc := 29) k133_29 rfl ?_
      refine q_bipush (pc := 30) (v := (-9)) k133_30 (by decide) ?_
      refine q_invV (pc := 32) (As := [.int (-9)]) (st := []) k133_32 lm133_170 ov122 rfl rfl rfl (q_cat rfl) (Nat.le_of_ble_eq_true rfl) hd h ?_
      rintro v M7 ⟨rfl, h⟩
      show q_Ex X d 133 (32 + 3) [some (.ref 97), some (.int a1), some (.int a2), none] [] M7 _
      refine q_aload_n (pc := 35) k133_35 rfl ?_
      refine q_getIv (pc := 36) (v := M7 97 20) k133_36 fg133_147 rfl rfl rfl ?_
      refine q_if_ne (pc := 39) 44 k133_39 (by decide) (fun g8 => ?_) (fun g8 => ?_)
      · replace h := h.1 g8
        refine q_aload_n (pc := 44) k133_44 rfl ?_
        refine q_getIv (pc := 45) (v := M7 97 20) k133_45 fg133_147 rfl rfl rfl ?_
        refine q_aload_n (pc := 48) k133_48 rfl ?_
        refine q_getR (pc := 49) k133_49 fg133_52 rfl rfl ?_
        refine q_iload_n (pc := 52) k133_52 rfl ?_
        refine q_ialdv (pc := 53) (v := M7 112 (Int32.toNatClampNeg a1)) k133_53 rfl h.1 rfl ?_
        replace h := h.2
        refine q_invS (pc := 54) (As := [.int (M7 97 20), .int (M7 112 (Int32.toNatClampNeg a1))]) (st := []) k133_54 lm133_187 os132 rfl rfl (q_cat rfl) (Nat.le_of_ble_eq_true rfl) hd h ?_
        rintro v M9 ⟨r10, rfl, h⟩
        show q_Ex X d 133 (54 + 3) [some (.ref 97), some (.int a1), some (.int a2), none] [.int r10] M9 _
        refine q_istore_n (pc := 57) [some (.ref 97), some (.int a1), some (.int a2), some (.int r10)] k133_57 rfl (by decide) rfl ?_
        refine q_iload_n (pc := 58) k133_58 rfl ?_
        refine q_if_ne (pc := 59) 73 k133_59 (by decide) (fun g11 => ?_) (fun g11 => ?_)
        · replace h := h.1 g11
          refine q_aload_n (pc := 73) k133_73 rfl ?_
          refine q_getIv (pc := 74) (v := M9 97 20) k133_74 fg133_147 rfl rfl rfl ?_
          refine q_iload_n (pc := 77) k133_77 rfl ?_
          refine q_idiv (pc := 78) k133_78 h.1 ?_
          replace h := h.2
          exact q_ireturn (pc := 79) k133_79 rfl ⟨_, rfl, h⟩
        · replace h := h.2 g11
          refine q_aload_n (pc := 62) k133_62 rfl ?_
          refine q_getR (pc := 63) k133_63 fg133_52 rfl rfl ?_
          refine q_iload_n (pc := 66) k133_66 rfl ?_
          refine q_ialdv (pc := 67) (v := M9 112 (Int32.toNatClampNeg a1)) k133_67 rfl h.1 rfl ?_
          replace h := h.2
          refine q_iload_n (pc := 68) k133_68 rfl ?_
          refine q_idiv (pc := 69) k133_69 h.1 ?_
          replace h := h.2
          refine q_goto (pc := 70) 79 k133_70 (by decide) ?_
          exact q_ireturn (pc := 79) k133_79 rfl ⟨_, rfl, h⟩
      · replace h := h.2 g8
        refine q_iload_n (pc := 42) k133_42 rfl ?_
        exact q_ireturn (pc := 43) k133_43 rfl ⟨_, rfl, h⟩
    · replace h := h.2 g6
      refine q_aload_n (pc := 22) k133_22 rfl ?_
      refine q_bipush (pc := 23) (v := (-2)) k133_23 (by decide) ?_
      refine q_invV (pc := 25) (As := [.int (-2)]) (st := []) k133_25 lm133_80 ov91 rfl rfl rfl (q_cat rfl) (Nat.le_of_ble_eq_true rfl) hd h ?_
      rintro v M12 ⟨r13, rfl, h⟩
      show q_Ex X d 133 (25 + 3) [some (.ref 97), some (.int a1), some (.int a2), none] [.int r13] M12 _
      exact q_ireturn (pc := 28) k133_28 rfl ⟨_, rfl, h⟩
  · replace h := h.2 g3
    refine q_aload_n (pc := 8) k133_8 rfl ?_
    refine q_iconst (pc := 9) (v := (-1)) k133_9 (by decide) ?_
    refine q_invV (pc := 10) (As := [.int (-1)]) (st := []) k133_10 lm133_80 ov91 rfl rfl rfl (q_cat rfl) (Nat.le_of_ble_eq_true rfl) hd h ?_
    rintro v M14 ⟨r15, rfl, h⟩
    show q_Ex X d 133 (10 + 3) [some (.ref 97), some (.int a1), some (.int a2), none] [.int r15] M14 _
    exact q_ireturn (pc := 13) k133_13 rfl ⟨_, rfl, h⟩
set_option maxRecDepth 20000 in
theorem vc134 {X : Nat × (Nat → Int32)} {d : Nat} (hd : 0 < d) {M : q_M} {a1 a2 a3 : Int32} {K : Int32 → q_M → Prop} (h : q_Cv X (d - 1) 122 [.ref 97, .int a1] M (fun M1 => ((a1 < (M1 97 20)) → (vp_in a2 3 ∧ (vp_in (((400 : Int32) * a2) + (M1 111 (Int32.toNatClampNeg a2))) 1200 ∧ ((((M1 106 (Int32.toNatClampNeg (((400 : Int32) * a2) + (M1 111 (Int32.toNatClampNeg a2))))) ≤ a3) → (K (-9) M1)) ∧ ((¬ (M1 106 (Int32.toNatClampNeg (((400 : Int32) * a2) + (M1 111 (Int32.toNatClampNeg a2))))) ≤ a3) → (vp_in (((400 : Int32) * a2) + (M1 111 (Int32.toNatClampNeg a2))) 1200 ∧ (K (((M1 105 (Int32.toNatClampNeg (((400 : Int32) * a2) + (M1 111 (Int32.toNatClampNeg a2))))) >>> (a3 &&& 31)) &&& 1) M1))))))) ∧ ((¬ a1 < (M1 97 20)) → (K (-9) M1)))) : q_Ci X d 134 [.ref 97, .int a1, .int a2, .int a3] M K := by
  show q_Ex X d 134 0 [some (.ref 97), some (.int a1), some (.int a2), some (.int a3), none] [] M (q_ri K)
  refine q_aload_n (pc := 0) k134_0 rfl ?_
  refine q_iload_n (pc := 1) k134_1 rfl ?_
  refine q_invV (pc := 2) (As := [.int a1]) (st := []) k134_2 lm134_170 ov122 rfl rfl rfl (q_cat rfl) (Nat.le_of_ble_eq_true rfl) hd h ?_
  rintro v M1 ⟨rfl, h⟩
  show q_Ex X d 134 (2 + 3) [some (.ref 97), some (.int a1), some (.int a2), some (.int a3), none] [] M1 _
  refine q_iload_n (pc := 5) k134_5 rfl ?_
  refine q_aload_n (pc := 6) k134_6 rfl ?_
  refine q_getIv (pc := 7) (v := M1 97 20) k134_7 fg134_147 rfl rfl rfl ?_
  refine q_icmp_lt (pc := 10) 16 k134_10 (by decide) (fun g2 => ?_) (fun g2 => ?_)
  · replace h := h.1 g2
    refine q_sipush (pc := 16) (v := 400) k134_16 (by decide) ?_
    refine q_iload_n (pc := 19) k134_19 rfl ?_
    refine q_imul (pc := 20) k134_20 ?_
    refine q_aload_n (pc := 21) k134_21 rfl ?_
    refine q_getR (pc := 22) k134_22 fg134_49 rfl rfl ?_
    refine q_iload_n (pc := 25) k134_25 rfl ?_
    refine q_ialdv (pc := 26) (v := M1 111 (Int32.toNatClampNeg a2)) k134_26 rfl h.1 rfl ?_
    replace h := h.2
    refine q_iadd (pc := 27) k134_27 ?_
    refine q_istore (pc := 28) [some (.ref 97), some (.int a1), some (.int a2), some (.int a3), some (.int (((400 : Int32) * a2) + (M1 111 (Int32.toNatClampNeg a2))))] k134_28 rfl (by decide) rfl ?_
    refine q_iload_n (pc := 30) k134_30 rfl ?_
    refine q_aload_n (pc := 31) k134_31 rfl ?_
    refine q_getR (pc := 32) k134_32 fg134_34 rfl rfl ?_
    refine q_iload (pc := 35) k134_35 rfl ?_
    refine q_ialdv (pc := 37) (v := M1 106 (Int32.toNatClampNeg (((400 : Int32) * a2) + (M1 111 (Int32.toNatClampNeg a2))))) k134_37 rfl h.1 rfl ?_
    replace h := h.2
    refine q_icmp_ge (pc := 38) 55 k134_38 (by decide) (fun g3 => ?_) (fun g3 => ?_)
    · replace h := h.1 g3
      refine q_bipush (pc := 55) (v := (-9)) k134_55 (by decide) ?_
      exact q_ireturn (pc := 57) k134_57 rfl ⟨_, rfl, h⟩
    · replace h := h.2 g3
      refine q_aload_n (pc := 41) k134_41 rfl ?_
      refine q_getR (pc := 42) k134_42 fg134_31 rfl rfl ?_
      refine q_iload (pc := 45) k134_45 rfl ?_
      refine q_ialdv (pc := 47) (v := M1 105 (Int32.toNatClampNeg (((400 : Int32) * a2) + (M1 111 (Int32.toNatClampNeg a2))))) k134_47 rfl h.1 rfl ?_
      replace h := h.2
      refine q_iload_n (pc := 48) k134_48 rfl ?_
      refine q_ishr (pc := 49) k134_49 ?_
      refine q_iconst (pc := 50) (v := 1) k134_50 (by decide) ?_
      refine q_iand (pc := 51) k134_51 ?_
      refine q_goto (pc := 52) 57 k134_52 (by decide) ?_
      exact q_ireturn (pc := 57) k134_57 rfl ⟨_, rfl, h⟩
  · replace h := h.2 g2
    refine q_bipush (pc := 13) (v := (-9)) k134_13 (by decide) ?_
    exact q_ireturn (pc := 15) k134_15 rfl ⟨_, rfl, h⟩
set_option maxRecDepth 20000 in
theorem vc135 {X : Nat × (Nat → Int32)} {d : Nat} (hd : 0 < d) {M : q_M} {a1 a2 a3 : Int32} {K : Int32 → q_M → Prop} (h : q_Ci X (d - 1) 97 [.ref 97, .int a2] M (fun r2 M1 => ((¬ r2 = 0) → (((a1 < 0) → (q_Ci X (d - 1) 91 [.ref 97, .int (-4)] M1 (fun r6 M5 => K r6 M5))) ∧ ((¬ a1 < 0) → (((0 ≤ a3) → (q_Ci X (d - 1) 134 [.ref 97, .int a1, .int a2, .int a3] M1 (fun r9 M8 => K r9 M8))) ∧ ((¬ 0 ≤ a3) → (q_Ci X (d - 1) 91 [.ref 97, .int (-4)] M1 (fun r11 M10 => K r11 M10))))))) ∧ ((r2 = 0) → (q_Ci X (d - 1) 91 [.ref 97, .int (-1)] M1 (fun r13 M12 => K r13 M12))))) : q_Ci X d 135 [.ref 97, .int a1, .int a2, .int a3] M K := by
  show q_Ex X d 135 0 [some (.ref 97), some (.int a1), some (.int a2), some (.int a3), none] [] M (q_ri K)
  refine q_aload_n (pc := 0) k135_0 rfl ?_
  refine q_iload_n (pc := 1) k135_1 rfl ?_
  refine q_invV (pc := 2) (As := [.int a2]) (st := []) k135_2 lm135_126 ov97 rfl rfl rfl (q_cat rfl) (Nat.le_of_ble_eq_true rfl) hd h ?_
  rintro v M1 ⟨r2, rfl, h⟩
  show q_Ex X d 135 (2 + 3) [some (.ref 97), some (.int a1), some (.int a2), some (.int a3), none] [.int r2] M1 _
  refine q_if_ne (pc := 5) 12 k135_5 (by decide) (fun g3 => ?_) (fun g3 => ?_)
  · replace h := h.1 g3
    refine q_iload_n (pc := 12) k135_12 rfl ?_
    refine q_if_lt (pc := 13) 20 k135_13 (by decide) (fun g4 => ?_) (fun g4 => ?_)
    · replace h := h.1 g4
      refine q_bipush (pc := 20) (v := (-4)) k135_20 (by decide) ?_
      refine q_goto (pc := 22) 26 k135_22 (by decide) ?_
      refine q_istore (pc := 26) [some (.ref 97), some (.int a1), some (.int a2), some (.int a3), some (.int (-4))] k135_26 rfl (by decide) rfl ?_
      refine q_iload (pc := 28) k135_28 rfl ?_
      refine q_if_eq (pc := 30) 42 k135_30 (by decide) (fun g => absurd g (by decide)) (fun _ => ?_)
      refine q_aload_n (pc := 33) k135_33 rfl ?_
      refine q_iload (pc := 34) k135_34 rfl ?_
      refine q_invV (pc := 36) (As := [.int (-4)]) (st := []) k135_36 lm135_80 ov91 rfl rfl rfl (q_cat rfl) (Nat.le_of_ble_eq_true rfl) hd h ?_
      rintro v M5 ⟨r6, rfl, h⟩
      show q_Ex X d 135 (36 + 3) [some (.ref 97), some (.int a1), some (.int a2), some (.int a3), some (.int (-4))] [.int r6] M5 _
      refine q_goto (pc := 39) 49 k135_39 (by decide) ?_
      exact q_ireturn (pc := 49) k135_49 rfl ⟨_, rfl, h⟩
    · replace h := h.2 g4
      refine q_iload_n (pc := 16) k135_16 rfl ?_
      refine q_if_ge (pc := 17) 25 k135_17 (by decide) (fun g7 => ?_) (fun g7 => ?_)
      · replace h := h.1 g7
        refine q_iconst (pc := 25) (v := 0) k135_25 (by decide) ?_
        refine q_istore (pc := 26) [some (.ref 97), some (.int a1), some (.int a2), some (.int a3), some (.int 0)] k135_26 rfl (by decide) rfl ?_
        refine q_iload (pc := 28) k135_28 rfl ?_
        refine q_if_eq (pc := 30) 42 k135_30 (by decide) (fun _ => ?_) (fun g => absurd g (by decide))
        refine q_aload_n (pc := 42) k135_42 rfl ?_
        refine q_iload_n (pc := 43) k135_43 rfl ?_
        refine q_iload_n (pc := 44) k135_44 rfl ?_
        refine q_iload_n (pc := 45) k135_45 rfl ?_
        refine q_invV (pc := 46) (As := [.int a1, .int a2, .int a3]) (st := []) k135_46 lm135_190 ov134 rfl rfl rfl (q_cat rfl) (Nat.le_of_ble_eq_true rfl) hd h ?_
        rintro v M8 ⟨r9, rfl, h⟩
        show q_Ex X d 135 (46 + 3) [some (.ref 97), some (.int a1), some (.int a2), some (.int a3), some (.int 0)] [.int r9] M8 _
        exact q_ireturn (pc := 49) k135_49 rfl ⟨_, rfl, h⟩
      · replace h := h.2 g7
        refine q_bipush (pc := 20) (v := (-4)) k135_20 (by decide) ?_
        refine q_goto (pc := 22) 26 k135_22 (by decide) ?_
        refine q_istore (pc := 26) [some (.ref 97), some (.int a1), some (.int a2), some (.int a3), some (.int (-4))] k135_26 rfl (by decide) rfl ?_
        refine q_iload (pc := 28) k135_28 rfl ?_
        refine q_if_eq (pc := 30) 42 k135_30 (by decide) (fun g => absurd g (by decide)) (fun _ => ?_)
        refine q_aload_n (pc := 33) k135_33 rfl ?_
        refine q_iload (pc := 34) k135_34 rfl ?_
        refine q_invV (pc := 36) (As := [.int (-4)]) (st := []) k135_36 lm135_80 ov91 rfl rfl rfl (q_cat rfl) (Nat.le_of_ble_eq_true rfl) hd h ?_
        rintro v M10 ⟨r11, rfl, h⟩
        show q_Ex X d 135 (36 + 3) [some (.ref 97), some (.int a1), some (.int a2), some (.int a3), some (.int (-4))] [.int r11] M10 _
        refine q_goto (pc := 39) 49 k135_39 (by decide) ?_
        exact q_ireturn (pc := 49) k135_49 rfl ⟨_, rfl, h⟩
  · replace h := h.2 g3
    refine q_iconst (pc := 8) (v := (-1)) k135_8 (by decide) ?_
    refine q_goto (pc := 9) 26 k135_9 (by decide) ?_
    refine q_istore (pc := 26) [some (.ref 97), some (.int a1), some (.int a2), some (.int a3), some (.int (-1))] k135_26 rfl (by decide) rfl ?_
    refine q_iload (pc := 28) k135_28 rfl ?_
    refine q_if_eq (pc := 30) 42 k135_30 (by decide) (fun g => absurd g (by decide)) (fun _ => ?_)
    refine q_aload_n (pc := 33) k135_33 rfl ?_
    refine q_iload (pc := 34) k135_34 rfl ?_
    refine q_invV (pc := 36) (As := [.int (-1)]) (st := []) k135_36 lm135_80 ov91 rfl rfl rfl (q_cat rfl) (Nat.le_of_ble_eq_true rfl) hd h ?_
    rintro v M12 ⟨r13, rfl, h⟩
    show q_Ex X d 135 (36 + 3) [some (.ref 97), some (.int a1), some (.int a2), some (.int a3), some (.int (-1))] [.int r13] M12 _
    refine q_goto (pc := 39) 49 k135_39 (by decide) ?_
    exact q_ireturn (pc := 49) k135_49 rfl ⟨_, rfl, h⟩
set_option maxRecDepth 20000 in
theorem vc136 {X : Nat × (Nat → Int32)} {d : Nat} (hd : 0 < d) {M : q_M} {a1 a2 a3 : Int32} {K : Int32 → q_M → Prop} (h : q_Ci X (d - 1) 97 [.ref 97, .int a2] M (fun r2 M1 => ((¬ r2 = 0) → (((0 ≤ a3) → (q_Ci X (d - 1) 125 [.ref 97] M1 (fun r6 M5 => ((¬ r6 = 0) → (¬ r6 = 0 ∧ (q_Ci X (d - 1) 134 [.ref 97, .int (((((a1 * 1664525) + 1013904223) &&& 2147483647) / 256) - ((((a1 * 1664525) + 1013904223) &&& 2147483647) / 256) / r6 * r6), .int a2, .int a3] M5 (fun r9 M8 => K r9 M8)))) ∧ ((r6 = 0) → (K (-9) M5))))) ∧ ((¬ 0 ≤ a3) → (q_Ci X (d - 1) 91 [.ref 97, .int (-4)] M1 (fun r11 M10 => K r11 M10))))) ∧ ((r2 = 0) → (q_Ci X (d - 1) 91 [.ref 97, .int (-1)] M1 (fun r13 M12 => K r13 M12))))) : q_Ci X d 136 [.ref 97, .int a1, .int a2, .int a3] M K := by
  show q_Ex X d 136 0 [some (.ref 97), some (.int a1), some (.int a2), some (.int a3), none, none, none] [] M (q_ri K)
  refine q_aload_n (pc := 0) k136_0 rfl ?_
  refine q_iload_n (pc := 1) k136_1 rfl ?_
  refine q_invV (pc := 2) (As := [.int a2]) (st := []) k136_2 lm136_126 ov97 rfl rfl rfl (q_cat rfl) (Nat.le_of_ble_eq_true rfl) hd h ?_
  rintro v M1 ⟨r2, rfl, h⟩
  show q_Ex X d 136 (2 + 3) [some (.ref 97), some (.int a1), some (.int a2), some (.int a3), none, none, none] [.int r2] M1 _
  refine q_if_ne (pc := 5) 12 k136_5 (by decide) (fun g3 => ?_) (fun g3 => ?_)
  · replace h := h.1 g3
    refine q_iload_n (pc := 12) k136_12 rfl ?_
    refine q_if_ge (pc := 13) 21 k136_13 (by decide) (fun g4 => ?_) (fun g4 => ?_)
    · replace h := h.1 g4
      refine q_iconst (pc := 21) (v := 0) k136_21 (by decide) ?_
      refine q_istore (pc := 22) [some (.ref 97), some (.int a1), some (.int a2), some (.int a3), some (.int 0), none, none] k136_22 rfl (by decide) rfl ?_
      refine q_iload (pc := 24) k136_24 rfl ?_
      refine q_if_eq (pc := 26) 36 k136_26 (by decide) (fun _ => ?_) (fun g => absurd g (by decide))
      refine q_aload_n (pc := 36) k136_36 rfl ?_
      refine q_invV (pc := 37) (As := []) (st := []) k136_37 lm136_177 ov125 rfl rfl rfl (q_cat rfl) (Nat.le_of_ble_eq_true rfl) hd h ?_
      rintro v M5 ⟨r6, rfl, h⟩
      show q_Ex X d 136 (37 + 3) [some (.ref 97), some (.int a1), some (.int a2), some (.int a3), some (.int 0), none, none] [.int r6] M5 _
      refine q_istore (pc := 40) [some (.ref 97), some (.int a1), some (.int a2), some (.int a3), some (.int 0), some (.int r6), none] k136_40 rfl (by decide) rfl ?_
      refine q_iload (pc := 42) k136_42 rfl ?_
      refine q_if_ne (pc := 44) 50 k136_44 (by decide) (fun g7 => ?_) (fun g7 => ?_)
      · replace h := h.1 g7
        refine q_iload_n (pc := 50) k136_50 rfl ?_
        refine q_ldc (pc := 51) (v := 1664525) k136_51 ld136_193 ?_
        refine q_imul (pc := 53) k136_53 ?_
        refine q_ldc (pc := 54) (v := 1013904223) k136_54 ld136_194 ?_
        refine q_iadd (pc := 56) k136_56 ?_
        refine q_istore (pc := 57) [some (.ref 97), some (.int a1), some (.int a2), some (.int a3), some (.int 0), some (.int r6), some (.int ((a1 * 1664525) + 1013904223))] k136_57 rfl (by decide) rfl ?_
        refine q_aload_n (pc := 59) k136_59 rfl ?_
        refine q_iload (pc := 60) k136_60 rfl ?_
        refine q_ldc (pc := 62) (v := 2147483647) k136_62 ld136_195 ?_
        refine q_iand (pc := 64) k136_64 ?_
        refine q_sipush (pc := 65) (v := 256) k136_65 (by decide) ?_
        refine q_idiv (pc := 68) k136_68 (by decide) ?_
        refine q_iload (pc := 69) k136_69 rfl ?_
        refine q_irem (pc := 71) k136_71 h.1 ?_
        replace h := h.2
        refine q_iload_n (pc := 72) k136_72 rfl ?_
        refine q_iload_n (pc := 73) k136_73 rfl ?_
        refine q_invV (pc := 74) (As := [.int (((((a1 * 1664525) + 1013904223) &&& 2147483647) / 256) - ((((a1 * 1664525) + 1013904223) &&& 2147483647) / 256) / r6 * r6), .int a2, .int a3]) (st := []) k136_74 lm136_190 ov134 rfl rfl rfl (q_cat rfl) (Nat.le_of_ble_eq_true rfl) hd h ?_
        rintro v M8 ⟨r9, rfl, h⟩
        show q_Ex X d 136 (74 + 3) [some (.ref 97), some (.int a1), some (.int a2), some (.int a3), some (.int 0), some (.int r6), some (.int ((a1 * 1664525) + 1013904223))] [.int r9] M8 _
        exact q_ireturn (pc := 77) k136_77 rfl ⟨_, rfl, h⟩
      · replace h := h.2 g7
        refine q_bipush (pc := 47) (v := (-9)) k136_47 (by decide) ?_
        exact q_ireturn (pc := 49) k136_49 rfl ⟨_, rfl, h⟩
    · replace h := h.2 g4
      refine q_bipush (pc := 16) (v := (-4)) k136_16 (by decide) ?_
      refine q_goto (pc := 18) 22 k136_18 (by decide) ?_
      refine q_istore (pc := 22) [some (.ref 97), some (.int a1), some (.int a2), some (.int a3), some (.int (-4)), none, none] k136_22 rfl (by decide) rfl ?_
      refine q_iload (pc := 24) k136_24 rfl ?_
      refine q_if_eq (pc := 26) 36 k136_26 (by decide) (fun g => absurd g (by decide)) (fun _ => ?_)
      refine q_aload_n (pc := 29) k136_29 rfl ?_
      refine q_iload (pc := 30) k136_30 rfl ?_
      refine q_invV (pc := 32) (As := [.int (-4)]) (st := []) k136_32 lm136_80 ov91 rfl rfl rfl (q_cat rfl) (Nat.le_of_ble_eq_true rfl) hd h ?_
      rintro v M10 ⟨r11, rfl, h⟩
      show q_Ex X d 136 (32 + 3) [some (.ref 97), some (.int a1), some (.int a2), some (.int a3), some (.int (-4)), none, none] [.int r11] M10 _
      exact q_ireturn (pc := 35) k136_35 rfl ⟨_, rfl, h⟩
  · replace h := h.2 g3
    refine q_iconst (pc := 8) (v := (-1)) k136_8 (by decide) ?_
    refine q_goto (pc := 9) 22 k136_9 (by decide) ?_
    refine q_istore (pc := 22) [some (.ref 97), some (.int a1), some (.int a2), some (.int a3), some (.int (-1)), none, none] k136_22 rfl (by decide) rfl ?_
    refine q_iload (pc := 24) k136_24 rfl ?_
    refine q_if_eq (pc := 26) 36 k136_26 (by decide) (fun g => absurd g (by decide)) (fun _ => ?_)
    refine q_aload_n (pc := 29) k136_29 rfl ?_
    refine q_iload (pc := 30) k136_30 rfl ?_
    refine q_invV (pc := 32) (As := [.int (-1)]) (st := []) k136_32 lm136_80 ov91 rfl rfl rfl (q_cat rfl) (Nat.le_of_ble_eq_true rfl) hd h ?_
    rintro v M12 ⟨r13, rfl, h⟩
    show q_Ex X d 136 (32 + 3) [some (.ref 97), some (.int a1), some (.int a2), some (.int a3), some (.int (-1)), none, none] [.int r13] M12 _
    exact q_ireturn (pc := 35) k136_35 rfl ⟨_, rfl, h⟩
set_option maxRecDepth 20000 in
theorem vc137 {X : Nat × (Nat → Int32)} {d : Nat} (hd : 0 < d) {M : q_M} {a1 a2 : Int32} {K : Int32 → q_M → Prop} (h : ((¬ a1 = (M 99 2)) → (q_Ci X (d - 1) 137 [.ref 97, .int (a1 + 1), .int a2] M (fun r3 M2 => q_Ex X d 137 24 [some (.ref 97), some (.int a1), some (.int a2), some (.int r3), some (.int 0), none, none] [] M2 (q_ri K)))) ∧ ((a1 = (M 99 2)) → (K 0 M))) : q_Ci X d 137 [.ref 97, .int a1, .int a2] M K := by
  show q_Ex X d 137 0 [some (.ref 97), some (.int a1), some (.int a2), none, none, none, none] [] M (q_ri K)
  refine q_iload_n (pc := 0) k137_0 rfl ?_
  refine q_aload_n (pc := 1) k137_1 rfl ?_
  refine q_getR (pc := 2) k137_2 fg137_13 rfl rfl ?_
  refine q_iconst (pc := 5) (v := 2) k137_5 (by decide) ?_
  refine q_ialdv (pc := 6) (v := M 99 2) k137_6 rfl (q_vin (by decide)) rfl ?_
  refine q_icmp_ne (pc := 7) 12 k137_7 (by decide) (fun g1 => ?_) (fun g1 => ?_)
  · replace h := h.1 g1
    refine q_aload_n (pc := 12) k137_12 rfl ?_
    refine q_iload_n (pc := 13) k137_13 rfl ?_
    refine q_iconst (pc := 14) (v := 1) k137_14 (by decide) ?_
    refine q_iadd (pc := 15) k137_15 ?_
    refine q_iload_n (pc := 16) k137_16 rfl ?_
    refine q_invV (pc := 17) (As := [.int (a1 + 1), .int a2]) (st := []) k137_17 lm137_196 ov137 rfl rfl rfl (q_cat rfl) (Nat.le_of_ble_eq_true rfl) hd h ?_
    rintro v M2 ⟨r3, rfl, h⟩
    show q_Ex X d 137 (17 + 3) [some (.ref 97), some (.int a1), some (.int a2), none, none, none, none] [.int r3] M2 _
    refine q_istore_n (pc := 20) [some (.ref 97), some (.int a1), some (.int a2), some (.int r3), none, none, none] k137_20 rfl (by decide) rfl ?_
    refine q_iconst (pc := 21) (v := 0) k137_21 (by decide) ?_
    refine q_istore (pc := 22) [some (.ref 97), some (.int a1), some (.int a2), some (.int r3), some (.int 0), none, none] k137_22 rfl (by decide) rfl ?_
    exact h
  · replace h := h.2 g1
    refine q_iconst (pc := 10) (v := 0) k137_10 (by decide) ?_
    exact q_ireturn (pc := 11) k137_11 rfl ⟨_, rfl, h⟩
set_option maxRecDepth 20000 in
theorem vc137_p24 {X : Nat × (Nat → Int32)} {d : Nat} (hd : 0 < d) {M : q_M} {a1 a2 a3 a4 : Int32} {K : Int32 → q_M → Prop} (h : vp_in a1 3 ∧ ((((M 108 (Int32.toNatClampNeg a1)) ≤ a4) → (K a3 M)) ∧ ((¬ (M 108 (Int32.toNatClampNeg a1)) ≤ a4) → (((((M 99 2) - a1) ≤ a3) → (K a3 M)) ∧ ((¬ ((M 99 2) - a1) ≤ a3) → (vp_in (((400 : Int32) * a1) + a4) 1200 ∧ (((((M 104 (Int32.toNatClampNeg (((400 : Int32) * a1) + a4))) &&& a2) = 0) → (vp_in (((400 : Int32) * a1) + a4) 1200 ∧ (q_Ci X (d - 1) 137 [.ref 97, .int (a1 + 1), .int (a2 ||| (M 104 (Int32.toNatClampNeg (((400 : Int32) * a1) + a4))))] M (fun r5 M4 => ((((1 : Int32) + r5) ≤ a3) → (q_Ex X d 137 24 [some (.ref 97), some (.int a1), some (.int a2), some (.int a3), some (.int (a4 + 1)), none, none] [] M4 (q_ri K))) ∧ ((¬ ((1 : Int32) + r5) ≤ a3) → (q_Ex X d 137 24 [some (.ref 97), some (.int a1), some (.int a2), some (.int ((1 : Int32) + r5)), some (.int (a4 + 1)), none, none] [] M4 (q_ri K))))))) ∧ ((¬ ((M 104 (Int32.toNatClampNeg (((400 : Int32) * a1) + a4))) &&& a2) = 0) → (q_Ex X d 137 24 [some (.ref 97), some (.int a1), some (.int a2), some (.int a3), some (.int (a4 + 1)), none, none] [] M (q_ri K)))))))))) : q_Ex X d 137 24 [some (.ref 97), some (.int a1), some (.int a2), some (.int a3), some (.int a4), none, none] [] M (q_ri K) := by
  refine q_iload (pc := 24) k137_24 rfl ?_
  refine q_aload_n (pc := 26) k137_26 rfl ?_
  refine q_getR (pc := 27) k137_27 fg137_40 rfl rfl ?_
  refine q_iload_n (pc := 30) k137_30 rfl ?_
  refine q_ialdv (pc := 31) (v := M 108 (Int32.toNatClampNeg a1)) k137_31 rfl h.1 rfl ?_
  replace h := h.2
  refine q_icmp_ge (pc := 32) 111 k137_32 (by decide) (fun g1 => ?_) (fun g1 => ?_)
  · replace h := h.1 g1
    refine q_iload_n (pc := 111) k137_111 rfl ?_
    exact q_ireturn (pc := 112) k137_112 rfl ⟨_, rfl, h⟩
  · replace h := h.2 g1
    refine q_iload_n (pc := 35) k137_35 rfl ?_
    refine q_aload_n (pc := 36) k137_36 rfl ?_
    refine q_getR (pc := 37) k137_37 fg137_13 rfl rfl ?_
    refine q_iconst (pc := 40) (v := 2) k137_40 (by decide) ?_
    refine q_ialdv (pc := 41) (v := M 99 2) k137_41 rfl (q_vin (by decide)) rfl ?_
    refine q_iload_n (pc := 42) k137_42 rfl ?_
    refine q_isub (pc := 43) k137_43 ?_
    refine q_icmp_ge (pc := 44) 111 k137_44 (by decide) (fun g2 => ?_) (fun g2 => ?_)
    · replace h := h.1 g2
      refine q_iload_n (pc := 111) k137_111 rfl ?_
      exact q_ireturn (pc := 112) k137_112 rfl ⟨_, rfl, h⟩
    · replace h := h.2 g2
      refine q_sipush (pc := 47) (v := 400) k137_47 (by decide) ?_
      refine q_iload_n (pc := 50) k137_50 rfl ?_
      refine q_imul (pc := 51) k137_51 ?_
      refine q_iload (pc := 52) k137_52 rfl ?_
      refine q_iadd (pc := 54) k137_54 ?_
      refine q_istore (pc := 55) [some (.ref 97), some (.int a1), some (.int a2), some (.int a3), some (.int a4), some (.int (((400 : Int32) * a1) + a4)), none] k137_55 rfl (by decide) rfl ?_
      refine q_aload_n (pc := 57) k137_57 rfl ?_
      refine q_getR (pc := 58) k137_58 fg137_28 rfl rfl ?_
      refine q_iload (pc := 61) k137_61 rfl ?_
      refine q_ialdv (pc := 63) (v := M 104 (Int32.toNatClampNeg (((400 : Int32) * a1) + a4))) k137_63 rfl h.1 rfl ?_
      replace h := h.2
      refine q_iload_n (pc := 64) k137_64 rfl ?_
      refine q_iand (pc := 65) k137_65 ?_
      refine q_if_eq (pc := 66) 72 k137_66 (by decide) (fun g3 => ?_) (fun g3 => ?_)
      · replace h := h.1 g3
        refine q_iconst (pc := 72) (v := 1) k137_72 (by decide) ?_
        refine q_aload_n (pc := 73) k137_73 rfl ?_
        refine q_iload_n (pc := 74) k137_74 rfl ?_
        refine q_iconst (pc := 75) (v := 1) k137_75 (by decide) ?_
        refine q_iadd (pc := 76) k137_76 ?_
        refine q_iload_n (pc := 77) k137_77 rfl ?_
        refine q_aload_n (pc := 78) k137_78 rfl ?_
        refine q_getR (pc := 79) k137_79 fg137_28 rfl rfl ?_
        refine q_iload (pc := 82) k137_82 rfl ?_
        refine q_ialdv (pc := 84) (v := M 104 (Int32.toNatClampNeg (((400 : Int32) * a1) + a4))) k137_84 rfl h.1 rfl ?_
        replace h := h.2
        refine q_ior (pc := 85) k137_85 ?_
        refine q_invV (pc := 86) (As := [.int (a1 + 1), .int (a2 ||| (M 104 (Int32.toNatClampNeg (((400 : Int32) * a1) + a4))))]) (st := [.int 1]) k137_86 lm137_196 ov137 rfl rfl rfl (q_cat rfl) (Nat.le_of_ble_eq_true rfl) hd h ?_
        rintro v M4 ⟨r5, rfl, h⟩
        show q_Ex X d 137 (86 + 3) [some (.ref 97), some (.int a1), some (.int a2), some (.int a3), some (.int a4), some (.int (((400 : Int32) * a1) + a4)), none] [.int r5, .int 1] M4 _
        refine q_iadd (pc := 89) k137_89 ?_
        refine q_istore (pc := 90) [some (.ref 97), some (.int a1), some (.int a2), some (.int a3), some (.int a4), some (.int (((400 : Int32) * a1) + a4)), some (.int ((1 : Int32) + r5))] k137_90 rfl (by decide) rfl ?_
        refine q_iload (pc := 92) k137_92 rfl ?_
        refine q_iload_n (pc := 94) k137_94 rfl ?_
        refine q_icmp_le (pc := 95) 103 k137_95 (by decide) (fun g6 => ?_) (fun g6 => ?_)
        · replace h := h.1 g6
          refine q_iload_n (pc := 103) k137_103 rfl ?_
          refine q_istore_n (pc := 104) [some (.ref 97), some (.int a1), some (.int a2), some (.int a3), some (.int a4), some (.int (((400 : Int32) * a1) + a4)), some (.int ((1 : Int32) + r5))] k137_104 rfl (by decide) rfl ?_
          refine q_iinc (pc := 105) (v := a4 + 1) [some (.ref 97), some (.int a1), some (.int a2), some (.int a3), some (.int (a4 + 1)), some (.int (((400 : Int32) * a1) + a4)), some (.int ((1 : Int32) + r5))] k137_105 rfl rfl rfl (by decide) rfl ?_
          refine q_goto (pc := 108) 24 k137_108 (by decide) ?_
          exact q_forget [some (.ref 97), some (.int a1), some (.int a2), some (.int a3), some (.int (a4 + 1)), none, none] (q_subOk (And.intro rfl (And.intro rfl (And.intro rfl (And.intro rfl (And.intro rfl (trivial))))))) h
        · replace h := h.2 g6
          refine q_iload (pc := 98) k137_98 rfl ?_
          refine q_goto (pc := 100) 104 k137_100 (by decide) ?_
          refine q_istore_n (pc := 104) [some (.ref 97), some (.int a1), some (.int a2), some (.int ((1 : Int32) + r5)), some (.int a4), some (.int (((400 : Int32) * a1) + a4)), some (.int ((1 : Int32) + r5))] k137_104 rfl (by decide) rfl ?_
          refine q_iinc (pc := 105) (v := a4 + 1) [some (.ref 97), some (.int a1), some (.int a2), some (.int ((1 : Int32) + r5)), some (.int (a4 + 1)), some (.int (((400 : Int32) * a1) + a4)), some (.int ((1 : Int32) + r5))] k137_105 rfl rfl rfl (by decide) rfl ?_
          refine q_goto (pc := 108) 24 k137_108 (by decide) ?_
          exact q_forget [some (.ref 97), some (.int a1), some (.int a2), some (.int ((1 : Int32) + r5)), some (.int (a4 + 1)), none, none] (q_subOk (And.intro rfl (And.intro rfl (And.intro rfl (And.intro rfl (And.intro rfl (trivial))))))) h
      · replace h := h.2 g3
        refine q_goto (pc := 69) 105 k137_69 (by decide) ?_
        refine q_iinc (pc := 105) (v := a4 + 1) [some (.ref 97), some (.int a1), some (.int a2), some (.int a3), some (.int (a4 + 1)), some (.int (((400 : Int32) * a1) + a4)), none] k137_105 rfl rfl rfl (by decide) rfl ?_
        refine q_goto (pc := 108) 24 k137_108 (by decide) ?_
        exact q_forget [some (.ref 97), some (.int a1), some (.int a2), some (.int a3), some (.int (a4 + 1)), none, none] (q_subOk (And.intro rfl (And.intro rfl (And.intro rfl (And.intro rfl (And.intro rfl (trivial))))))) h
set_option maxRecDepth 20000 in
theorem vc138 {X : Nat × (Nat → Int32)} {d : Nat} (hd : 0 < d) {M : q_M} {K : Int32 → q_M → Prop} (h : q_Cv X (d - 1) 113 [.ref 97] M (fun M1 => q_Ci X (d - 1) 137 [.ref 97, .int 0, .int 0] M1 (fun r3 M2 => K r3 M2))) : q_Ci X d 138 [.ref 97] M K := by
  show q_Ex X d 138 0 [some (.ref 97)] [] M (q_ri K)
  refine q_aload_n (pc := 0) k138_0 rfl ?_
  refine q_invV (pc := 1) (As := []) (st := []) k138_1 lm138_161 ov113 rfl rfl rfl (q_cat rfl) (Nat.le_of_ble_eq_true rfl) hd h ?_
  rintro v M1 ⟨rfl, h⟩
  show q_Ex X d 138 (1 + 3) [some (.ref 97)] [] M1 _
  refine q_aload_n (pc := 4) k138_4 rfl ?_
  refine q_iconst (pc := 5) (v := 0) k138_5 (by decide) ?_
  refine q_iconst (pc := 6) (v := 0) k138_6 (by decide) ?_
  refine q_invV (pc := 7) (As := [.int 0, .int 0]) (st := []) k138_7 lm138_196 ov137 rfl rfl rfl (q_cat rfl) (Nat.le_of_ble_eq_true rfl) hd h ?_
  rintro v M2 ⟨r3, rfl, h⟩
  show q_Ex X d 138 (7 + 3) [some (.ref 97)] [.int r3] M2 _
  exact q_ireturn (pc := 10) k138_10 rfl ⟨_, rfl, h⟩
set_option maxRecDepth 20000 in
theorem vc139 {X : Nat × (Nat → Int32)} {d : Nat} (hd : 0 < d) {M : q_M} {K : Int32 → q_M → Prop} (h : q_Ci X (d - 1) 138 [.ref 97] M (fun r2 M1 => K r2 M1)) : q_Ci X d 139 [.ref 97] M K := by
  show q_Ex X d 139 0 [some (.ref 97)] [] M (q_ri K)
  refine q_aload_n (pc := 0) k139_0 rfl ?_
  refine q_invV (pc := 1) (As := []) (st := []) k139_1 lm139_199 ov138 rfl rfl rfl (q_cat rfl) (Nat.le_of_ble_eq_true rfl) hd h ?_
  rintro v M1 ⟨r2, rfl, h⟩
  show q_Ex X d 139 (1 + 3) [some (.ref 97)] [.int r2] M1 _
  exact q_ireturn (pc := 4) k139_4 rfl ⟨_, rfl, h⟩
set_option maxRecDepth 20000 in
theorem vc140 {X : Nat × (Nat → Int32)} {d : Nat} (hd : 0 < d) {M : q_M} {K : Int32 → q_M → Prop} (h : q_Ci X (d - 1) 138 [.ref 97] M (fun r2 M1 => q_Ex X d 140 9 [some (.ref 97), some (.int r2), some (.int 0), some (.int 0)] [] M1 (q_ri K))) : q_Ci X d 140 [.ref 97] M K := by
  show q_Ex X d 140 0 [some (.ref 97), none, none, none] [] M (q_ri K)
  refine q_aload_n (pc := 0) k140_0 rfl ?_
  refine q_invV (pc := 1) (As := []) (st := []) k140_1 lm140_199 ov138 rfl rfl rfl (q_cat rfl) (Nat.le_of_ble_eq_true rfl) hd h ?_
  rintro v M1 ⟨r2, rfl, h⟩
  show q_Ex X d 140 (1 + 3) [some (.ref 97), none, none, none] [.int r2] M1 _
  refine q_istore_n (pc := 4) [some (.ref 97), some (.int r2), none, none] k140_4 rfl (by decide) rfl ?_
  refine q_iconst (pc := 5) (v := 0) k140_5 (by decide) ?_
  refine q_istore_n (pc := 6) [some (.ref 97), some (.int r2), some (.int 0), none] k140_6 rfl (by decide) rfl ?_
  refine q_iconst (pc := 7) (v := 0) k140_7 (by decide) ?_
  refine q_istore_n (pc := 8) [some (.ref 97), some (.int r2), some (.int 0), some (.int 0)] k140_8 rfl (by decide) rfl ?_
  exact h
set_option maxRecDepth 20000 in
theorem vc140_p9 {X : Nat × (Nat → Int32)} {d : Nat} (hd : 0 < d) {M : q_M} {a1 a2 a3 : Int32} {K : Int32 → q_M → Prop} (h : q_Ci X (d - 1) 95 [.ref 97] M (fun r2 M1 => ((r2 ≤ a3) → (K a2 M1)) ∧ ((¬ r2 ≤ a3) → (q_Ci X (d - 1) 98 [.ref 97, .int a3] M1 (fun r5 M4 => ((r5 = 0) → (vp_in ((45 : Int32) + ((3 : Int32) * a3)) 135 ∧ (q_Ci X (d - 1) 138 [.ref 97] (q_set M4 99 (Int32.toNatClampNeg ((45 : Int32) + ((3 : Int32) * a3))) 1) (fun r8 M7 => ((a1 ≤ r8) → (vp_in ((45 : Int32) + ((3 : Int32) * a3)) 135 ∧ (q_Ex X d 140 9 [some (.ref 97), some (.int a1), some (.int (a2 ||| 0)), some (.int (a3 + 1))] [] (q_set M7 99 (Int32.toNatClampNeg ((45 : Int32) + ((3 : Int32) * a3))) 0) (q_ri K)))) ∧ ((¬ a1 ≤ r8) → (vp_in ((45 : Int32) + ((3 : Int32) * a3)) 135 ∧ (q_Ex X d 140 9 [some (.ref 97), some (.int a1), some (.int (a2 ||| ((1 : Int32) <<< (a3 &&& 31)))), some (.int (a3 + 1))] [] (q_set M7 99 (Int32.toNatClampNeg ((45 : Int32) + ((3 : Int32) * a3))) 0) (q_ri K)))))))) ∧ ((¬ r5 = 0) → (q_Ex X d 140 9 [some (.ref 97), some (.int a1), some (.int a2), some (.int (a3 + 1))] [] M4 (q_ri K)))))))) : q_Ex X d 140 9 [some (.ref 97), some (.int a1), some (.int a2), some (.int a3)] [] M (q_ri K) := by
  refine q_iload_n (pc := 9) k140_9 rfl ?_
  refine q_aload_n (pc := 10) k140_10 rfl ?_
  refine q_invV (pc := 11) (As := []) (st := [.int a3]) k140_11 lm140_64 ov95 rfl rfl rfl (q_cat rfl) (Nat.le_of_ble_eq_true rfl) hd h ?_
  rintro v M1 ⟨r2, rfl, h⟩
  show q_Ex X d 140 (11 + 3) [some (.ref 97), some (.int a1), some (.int a2), some (.int a3)] [.int r2, .int a3] M1 _
  refine q_icmp_ge (pc := 14) 76 k140_14 (by decide) (fun g3 => ?_) (fun g3 => ?_)
  · replace h := h.1 g3
    refine q_iload_n (pc := 76) k140_76 rfl ?_
    exact q_ireturn (pc := 77) k140_77 rfl ⟨_, rfl, h⟩
  · replace h := h.2 g3
    refine q_aload_n (pc := 17) k140_17 rfl ?_
    refine q_iload_n (pc := 18) k140_18 rfl ?_
    refine q_invV (pc := 19) (As := [.int a3]) (st := []) k140_19 lm140_106 ov98 rfl rfl rfl (q_cat rfl) (Nat.le_of_ble_eq_true rfl) hd h ?_
    rintro v M4 ⟨r5, rfl, h⟩
    show q_Ex X d 140 (19 + 3) [some (.ref 97), some (.int a1), some (.int a2), some (.int a3)] [.int r5] M4 _
    refine q_if_eq (pc := 22) 28 k140_22 (by decide) (fun g6 => ?_) (fun g6 => ?_)
    · replace h := h.1 g6
      refine q_aload_n (pc := 28) k140_28 rfl ?_
      refine q_getR (pc := 29) k140_29 fg140_13 rfl rfl ?_
      refine q_bipush (pc := 32) (v := 45) k140_32 (by decide) ?_
      refine q_iconst (pc := 34) (v := 3) k140_34 (by decide) ?_
      refine q_iload_n (pc := 35) k140_35 rfl ?_
      refine q_imul (pc := 36) k140_36 ?_
      refine q_iadd (pc := 37) k140_37 ?_
      refine q_iconst (pc := 38) (v := 1) k140_38 (by decide) ?_
      refine q_iastv (pc := 39) (k := (Int32.toNatClampNeg ((45 : Int32) + ((3 : Int32) * a3)))) k140_39 rfl h.1 rfl ?_
      replace h := h.2
      refine q_iload_n (pc := 40) k140_40 rfl ?_
      refine q_aload_n (pc := 41) k140_41 rfl ?_
      refine q_invV (pc := 42) (As := []) (st := [.int a2]) k140_42 lm140_199 ov138 rfl rfl rfl (q_cat rfl) (Nat.le_of_ble_eq_true rfl) hd h ?_
      rintro v M7 ⟨r8, rfl, h⟩
      show q_Ex X d 140 (42 + 3) [some (.ref 97), some (.int a1), some (.int a2), some (.int a3)] [.int r8, .int a2] M7 _
      refine q_iload_n (pc := 45) k140_45 rfl ?_
      refine q_icmp_ge (pc := 46) 55 k140_46 (by decide) (fun g9 => ?_) (fun g9 => ?_)
      · replace h := h.1 g9
        refine q_iconst (pc := 55) (v := 0) k140_55 (by decide) ?_
        refine q_ior (pc := 56) k140_56 ?_
        refine q_istore_n (pc := 57) [some (.ref 97), some (.int a1), some (.int (a2 ||| 0)), some (.int a3)] k140_57 rfl (by decide) rfl ?_
        refine q_aload_n (pc := 58) k140_58 rfl ?_
        refine q_getR (pc := 59) k140_59 fg140_13 rfl rfl ?_
        refine q_bipush (pc := 62) (v := 45) k140_62 (by decide) ?_
        refine q_iconst (pc := 64) (v := 3) k140_64 (by decide) ?_
        refine q_iload_n (pc := 65) k140_65 rfl ?_
        refine q_imul (pc := 66) k140_66 ?_
        refine q_iadd (pc := 67) k140_67 ?_
        refine q_iconst (pc := 68) (v := 0) k140_68 (by decide) ?_
        refine q_iastv (pc := 69) (k := (Int32.toNatClampNeg ((45 : Int32) + ((3 : Int32) * a3)))) k140_69 rfl h.1 rfl ?_
        replace h := h.2
        refine q_iinc (pc := 70) (v := a3 + 1) [some (.ref 97), some (.int a1), some (.int (a2 ||| 0)), some (.int (a3 + 1))] k140_70 rfl rfl rfl (by decide) rfl ?_
        refine q_goto (pc := 73) 9 k140_73 (by decide) ?_
        exact h
      · replace h := h.2 g9
        refine q_iconst (pc := 49) (v := 1) k140_49 (by decide) ?_
        refine q_iload_n (pc := 50) k140_50 rfl ?_
        refine q_ishl (pc := 51) k140_51 ?_
        refine q_goto (pc := 52) 56 k140_52 (by decide) ?_
        refine q_ior (pc := 56) k140_56 ?_
        refine q_istore_n (pc := 57) [some (.ref 97), some (.int a1), some (.int (a2 ||| ((1 : Int32) <<< (a3 &&& 31)))), some (.int a3)] k140_57 rfl (by decide) rfl ?_
        refine q_aload_n (pc := 58) k140_58 rfl ?_
        refine q_getR (pc := 59) k140_59 fg140_13 rfl rfl ?_
        refine q_bipush (pc := 62) (v := 45) k140_62 (by decide) ?_
        refine q_iconst (pc := 64) (v := 3) k140_64 (by decide) ?_
        refine q_iload_n (pc := 65) k140_65 rfl ?_
        refine q_imul (pc := 66) k140_66 ?_
        refine q_iadd (pc := 67) k140_67 ?_
        refine q_iconst (pc := 68) (v := 0) k140_68 (by decide) ?_
        refine q_iastv (pc := 69) (k := (Int32.toNatClampNeg ((45 : Int32) + ((3 : Int32) * a3)))) k140_69 rfl h.1 rfl ?_
        replace h := h.2
        refine q_iinc (pc := 70) (v := a3 + 1) [some (.ref 97), some (.int a1), some (.int (a2 ||| ((1 : Int32) <<< (a3 &&& 31)))), some (.int (a3 + 1))] k140_70 rfl rfl rfl (by decide) rfl ?_
        refine q_goto (pc := 73) 9 k140_73 (by decide) ?_
        exact h
    · replace h := h.2 g6
      refine q_goto (pc := 25) 70 k140_25 (by decide) ?_
      refine q_iinc (pc := 70) (v := a3 + 1) [some (.ref 97), some (.int a1), some (.int a2), some (.int (a3 + 1))] k140_70 rfl rfl rfl (by decide) rfl ?_
      refine q_goto (pc := 73) 9 k140_73 (by decide) ?_
      exact h
set_option maxRecDepth 20000 in
theorem vc141 {X : Nat × (Nat → Int32)} {d : Nat} (hd : 0 < d) {M : q_M} {a1 : Int32} {K : Int32 → q_M → Prop} (h : q_Ci X (d - 1) 96 [.ref 97, .int a1] M (fun r2 M1 => ((¬ r2 = 0) → (((¬ (M1 99 7) = 4) → (vp_in ((8 : Int32) + (M1 99 7)) 135 ∧ (K (((q_set M1 99 (Int32.toNatClampNeg ((8 : Int32) + (M1 99 7))) a1) 99 7) + 1) (q_set (q_set M1 99 (Int32.toNatClampNeg ((8 : Int32) + (M1 99 7))) a1) 99 7 (((q_set M1 99 (Int32.toNatClampNeg ((8 : Int32) + (M1 99 7))) a1) 99 7) + 1))))) ∧ (((M1 99 7) = 4) → (q_Ci X (d - 1) 91 [.ref 97, .int (-6)] M1 (fun r6 M5 => K r6 M5))))) ∧ ((r2 = 0) → (q_Ci X (d - 1) 91 [.ref 97, .int (-1)] M1 (fun r8 M7 => K r8 M7))))) : q_Ci X d 141 [.ref 97, .int a1] M K := by
  show q_Ex X d 141 0 [some (.ref 97), some (.int a1), none] [] M (q_ri K)
  refine q_aload_n (pc := 0) k141_0 rfl ?_
  refine q_iload_n (pc := 1) k141_1 rfl ?_
  refine q_invV (pc := 2) (As := [.int a1]) (st := []) k141_2 lm141_96 ov96 rfl rfl rfl (q_cat rfl) (Nat.le_of_ble_eq_true rfl) hd h ?_
  rintro v M1 ⟨r2, rfl, h⟩
  show q_Ex X d 141 (2 + 3) [some (.ref 97), some (.int a1), none] [.int r2] M1 _
  refine q_if_ne (pc := 5) 12 k141_5 (by decide) (fun g3 => ?_) (fun g3 => ?_)
  · replace h := h.1 g3
    refine q_aload_n (pc := 12) k141_12 rfl ?_
    refine q_getR (pc := 13) k141_13 fg141_13 rfl rfl ?_
    refine q_bipush (pc := 16) (v := 7) k141_16 (by decide) ?_
    refine q_ialdv (pc := 18) (v := M1 99 7) k141_18 rfl (q_vin (by decide)) rfl ?_
    refine q_iconst (pc := 19) (v := 4) k141_19 (by decide) ?_
    refine q_icmp_ne (pc := 20) 28 k141_20 (by decide) (fun g4 => ?_) (fun g4 => ?_)
    · replace h := h.1 g4
      refine q_iconst (pc := 28) (v := 0) k141_28 (by decide) ?_
      refine q_istore_n (pc := 29) [some (.ref 97), some (.int a1), some (.int 0)] k141_29 rfl (by decide) rfl ?_
      refine q_iload_n (pc := 30) k141_30 rfl ?_
      refine q_if_eq (pc := 31) 40 k141_31 (by decide) (fun _ => ?_) (fun g => absurd g (by decide))
      refine q_aload_n (pc := 40) k141_40 rfl ?_
      refine q_getR (pc := 41) k141_41 fg141_13 rfl rfl ?_
      refine q_bipush (pc := 44) (v := 8) k141_44 (by decide) ?_
      refine q_aload_n (pc := 46) k141_46 rfl ?_
      refine q_getR (pc := 47) k141_47 fg141_13 rfl rfl ?_
      refine q_bipush (pc := 50) (v := 7) k141_50 (by decide) ?_
      refine q_ialdv (pc := 52) (v := M1 99 7) k141_52 rfl (q_vin (by decide)) rfl ?_
      refine q_iadd (pc := 53) k141_53 ?_
      refine q_iload_n (pc := 54) k141_54 rfl ?_
      refine q_iastv (pc := 55) (k := (Int32.toNatClampNeg ((8 : Int32) + (M1 99 7)))) k141_55 rfl h.1 rfl ?_
      replace h := h.2
      refine q_aload_n (pc := 56) k141_56 rfl ?_
      refine q_getR (pc := 57) k141_57 fg141_13 rfl rfl ?_
      refine q_bipush (pc := 60) (v := 7) k141_60 (by decide) ?_
      refine q_dup2 (pc := 62) k141_62 rfl rfl ?_
      refine q_ialdv (pc := 63) (v := (q_set M1 99 (Int32.toNatClampNeg ((8 : Int32) + (M1 99 7))) a1) 99 7) k141_63 rfl (q_vin (by decide)) rfl ?_
      refine q_iconst (pc := 64) (v := 1) k141_64 (by decide) ?_
      refine q_iadd (pc := 65) k141_65 ?_
      refine q_iastv (pc := 66) (k := 7) k141_66 rfl (q_vin (by decide)) rfl ?_
      refine q_aload_n (pc := 67) k141_67 rfl ?_
      refine q_getR (pc := 68) k141_68 fg141_13 rfl rfl ?_
      refine q_bipush (pc := 71) (v := 7) k141_71 (by decide) ?_
      refine q_ialdv (pc := 73) (v := ((q_set M1 99 (Int32.toNatClampNeg ((8 : Int32) + (M1 99 7))) a1) 99 7) + 1) k141_73 rfl (q_vin (by decide)) rfl ?_
      exact q_ireturn (pc := 74) k141_74 rfl ⟨_, rfl, h⟩
    · replace h := h.2 g4
      refine q_bipush (pc := 23) (v := (-6)) k141_23 (by decide) ?_
      refine q_goto (pc := 25) 29 k141_25 (by decide) ?_
      refine q_istore_n (pc := 29) [some (.ref 97), some (.int a1), some (.int (-6))] k141_29 rfl (by decide) rfl ?_
      refine q_iload_n (pc := 30) k141_30 rfl ?_
      refine q_if_eq (pc := 31) 40 k141_31 (by decide) (fun g => absurd g (by decide)) (fun _ => ?_)
      refine q_aload_n (pc := 34) k141_34 rfl ?_
      refine q_iload_n (pc := 35) k141_35 rfl ?_
      refine q_invV (pc := 36) (As := [.int (-6)]) (st := []) k141_36 lm141_80 ov91 rfl rfl rfl (q_cat rfl) (Nat.le_of_ble_eq_true rfl) hd h ?_
      rintro v M5 ⟨r6, rfl, h⟩
      show q_Ex X d 141 (36 + 3) [some (.ref 97), some (.int a1), some (.int (-6))] [.int r6] M5 _
      exact q_ireturn (pc := 39) k141_39 rfl ⟨_, rfl, h⟩
  · replace h := h.2 g3
    refine q_iconst (pc := 8) (v := (-1)) k141_8 (by decide) ?_
    refine q_goto (pc := 9) 29 k141_9 (by decide) ?_
    refine q_istore_n (pc := 29) [some (.ref 97), some (.int a1), some (.int (-1))] k141_29 rfl (by decide) rfl ?_
    refine q_iload_n (pc := 30) k141_30 rfl ?_
    refine q_if_eq (pc := 31) 40 k141_31 (by decide) (fun g => absurd g (by decide)) (fun _ => ?_)
    refine q_aload_n (pc := 34) k141_34 rfl ?_
    refine q_iload_n (pc := 35) k141_35 rfl ?_
    refine q_invV (pc := 36) (As := [.int (-1)]) (st := []) k141_36 lm141_80 ov91 rfl rfl rfl (q_cat rfl) (Nat.le_of_ble_eq_true rfl) hd h ?_
    rintro v M7 ⟨r8, rfl, h⟩
    show q_Ex X d 141 (36 + 3) [some (.ref 97), some (.int a1), some (.int (-1))] [.int r8] M7 _
    exact q_ireturn (pc := 39) k141_39 rfl ⟨_, rfl, h⟩
set_option maxRecDepth 20000 in
theorem vc142 {X : Nat × (Nat → Int32)} {d : Nat} (hd : 0 < d) {M : q_M} {K : Int32 → q_M → Prop} (h : q_Ci X (d - 1) 124 [.ref 97] M (fun r2 M1 => ((¬ r2 = 0) → (q_Cv X (d - 1) 122 [.ref 97, .int (-9)] M1 (fun M4 => K (M4 97 22) M4))) ∧ ((r2 = 0) → (q_Ci X (d - 1) 91 [.ref 97, .int (-3)] M1 (fun r6 M5 => K r6 M5))))) : q_Ci X d 142 [.ref 97] M K := by
  show q_Ex X d 142 0 [some (.ref 97)] [] M (q_ri K)
  refine q_aload_n (pc := 0) k142_0 rfl ?_
  refine q_invV (pc := 1) (As := []) (st := []) k142_1 lm142_173 ov124 rfl rfl rfl (q_cat rfl) (Nat.le_of_ble_eq_true rfl) hd h ?_
  rintro v M1 ⟨r2, rfl, h⟩
  show q_Ex X d 142 (1 + 3) [some (.ref 97)] [.int r2] M1 _
  refine q_if_ne (pc := 4) 14 k142_4 (by decide) (fun g3 => ?_) (fun g3 => ?_)
  · replace h := h.1 g3
    refine q_aload_n (pc := 14) k142_14 rfl ?_
    refine q_bipush (pc := 15) (v := (-9)) k142_15 (by decide) ?_
    refine q_invV (pc := 17) (As := [.int (-9)]) (st := []) k142_17 lm142_170 ov122 rfl rfl rfl (q_cat rfl) (Nat.le_of_ble_eq_true rfl) hd h ?_
    rintro v M4 ⟨rfl, h⟩
    show q_Ex X d 142 (17 + 3) [some (.ref 97)] [] M4 _
    refine q_aload_n (pc := 20) k142_20 rfl ?_
    refine q_getIv (pc := 21) (v := M4 97 22) k142_21 fg142_144 rfl rfl rfl ?_
    exact q_ireturn (pc := 24) k142_24 rfl ⟨_, rfl, h⟩
  · replace h := h.2 g3
    refine q_aload_n (pc := 7) k142_7 rfl ?_
    refine q_bipush (pc := 8) (v := (-3)) k142_8 (by decide) ?_
    refine q_invV (pc := 10) (As := [.int (-3)]) (st := []) k142_10 lm142_80 ov91 rfl rfl rfl (q_cat rfl) (Nat.le_of_ble_eq_true rfl) hd h ?_
    rintro v M5 ⟨r6, rfl, h⟩
    show q_Ex X d 142 (10 + 3) [some (.ref 97)] [.int r6] M5 _
    exact q_ireturn (pc := 13) k142_13 rfl ⟨_, rfl, h⟩
set_option maxRecDepth 20000 in
theorem vc143 {X : Nat × (Nat → Int32)} {d : Nat} (hd : 0 < d) {M : q_M} {a1 : Int32} {K : Int32 → q_M → Prop} (h : q_Ci X (d - 1) 96 [.ref 97, .int a1] M (fun r2 M1 => ((¬ r2 = 0) → (q_Cv X (d - 1) 122 [.ref 97, .int (-9)] M1 (fun M4 => vp_in a1 30 ∧ (K (M4 113 (Int32.toNatClampNeg a1)) M4)))) ∧ ((r2 = 0) → (q_Ci X (d - 1) 91 [.ref 97, .int (-1)] M1 (fun r6 M5 => K r6 M5))))) : q_Ci X d 143 [.ref 97, .int a1] M K := by
  show q_Ex X d 143 0 [some (.ref 97), some (.int a1)] [] M (q_ri K)
  refine q_aload_n (pc := 0) k143_0 rfl ?_
  refine q_iload_n (pc := 1) k143_1 rfl ?_
  refine q_invV (pc := 2) (As := [.int a1]) (st := []) k143_2 lm143_96 ov96 rfl rfl rfl (q_cat rfl) (Nat.le_of_ble_eq_true rfl) hd h ?_
  rintro v M1 ⟨r2, rfl, h⟩
  show q_Ex X d 143 (2 + 3) [some (.ref 97), some (.int a1)] [.int r2] M1 _
  refine q_if_ne (pc := 5) 14 k143_5 (by decide) (fun g3 => ?_) (fun g3 => ?_)
  · replace h := h.1 g3
    refine q_aload_n (pc := 14) k143_14 rfl ?_
    refine q_bipush (pc := 15) (v := (-9)) k143_15 (by decide) ?_
    refine q_invV (pc := 17) (As := [.int (-9)]) (st := []) k143_17 lm143_170 ov122 rfl rfl rfl (q_cat rfl) (Nat.le_of_ble_eq_true rfl) hd h ?_
    rintro v M4 ⟨rfl, h⟩
    show q_Ex X d 143 (17 + 3) [some (.ref 97), some (.int a1)] [] M4 _
    refine q_aload_n (pc := 20) k143_20 rfl ?_
    refine q_getR (pc := 21) k143_21 fg143_55 rfl rfl ?_
    refine q_iload_n (pc := 24) k143_24 rfl ?_
    refine q_ialdv (pc := 25) (v := M4 113 (Int32.toNatClampNeg a1)) k143_25 rfl h.1 rfl ?_
    replace h := h.2
    exact q_ireturn (pc := 26) k143_26 rfl ⟨_, rfl, h⟩
  · replace h := h.2 g3
    refine q_aload_n (pc := 8) k143_8 rfl ?_
    refine q_iconst (pc := 9) (v := (-1)) k143_9 (by decide) ?_
    refine q_invV (pc := 10) (As := [.int (-1)]) (st := []) k143_10 lm143_80 ov91 rfl rfl rfl (q_cat rfl) (Nat.le_of_ble_eq_true rfl) hd h ?_
    rintro v M5 ⟨r6, rfl, h⟩
    show q_Ex X d 143 (10 + 3) [some (.ref 97), some (.int a1)] [.int r6] M5 _
    exact q_ireturn (pc := 13) k143_13 rfl ⟨_, rfl, h⟩
set_option maxRecDepth 20000 in
theorem vc144 {X : Nat × (Nat → Int32)} {d : Nat} (hd : 0 < d) {M : q_M} {a1 : Int32} {K : Int32 → q_M → Prop} (h : q_Ci X (d - 1) 96 [.ref 97, .int a1] M (fun r2 M1 => ((¬ r2 = 0) → (q_Ci X (d - 1) 98 [.ref 97, .int a1] M1 (fun r5 M4 => ((¬ r5 = 0) → (q_Ci X (d - 1) 91 [.ref 97, .int (-3)] M4 (fun r8 M7 => K r8 M7))) ∧ ((r5 = 0) → (q_Ci X (d - 1) 125 [.ref 97] M4 (fun r10 M9 => vp_in ((45 : Int32) + ((3 : Int32) * a1)) 135 ∧ (q_Ci X (d - 1) 125 [.ref 97] (q_set M9 99 (Int32.toNatClampNeg ((45 : Int32) + ((3 : Int32) * a1))) 1) (fun r12 M11 => vp_in ((45 : Int32) + ((3 : Int32) * a1)) 135 ∧ (K (r10 - r12) (q_set M11 99 (Int32.toNatClampNeg ((45 : Int32) + ((3 : Int32) * a1))) 0)))))))))) ∧ ((r2 = 0) → (q_Ci X (d - 1) 91 [.ref 97, .int (-1)] M1 (fun r14 M13 => K r14 M13))))) : q_Ci X d 144 [.ref 97, .int a1] M K := by
  show q_Ex X d 144 0 [some (.ref 97), some (.int a1), none, none, none] [] M (q_ri K)
  refine q_aload_n (pc := 0) k144_0 rfl ?_
  refine q_iload_n (pc := 1) k144_1 rfl ?_
  refine q_invV (pc := 2) (As := [.int a1]) (st := []) k144_2 lm144_96 ov96 rfl rfl rfl (q_cat rfl) (Nat.le_of_ble_eq_true rfl) hd h ?_
  rintro v M1 ⟨r2, rfl, h⟩
  show q_Ex X d 144 (2 + 3) [some (.ref 97), some (.int a1), none, none, none] [.int r2] M1 _
  refine q_if_ne (pc := 5) 12 k144_5 (by decide) (fun g3 => ?_) (fun g3 => ?_)
  · replace h := h.1 g3
    refine q_aload_n (pc := 12) k144_12 rfl ?_
    refine q_iload_n (pc := 13) k144_13 rfl ?_
    refine q_invV (pc := 14) (As := [.int a1]) (st := []) k144_14 lm144_106 ov98 rfl rfl rfl (q_cat rfl) (Nat.le_of_ble_eq_true rfl) hd h ?_
    rintro v M4 ⟨r5, rfl, h⟩
    show q_Ex X d 144 (14 + 3) [some (.ref 97), some (.int a1), none, none, none] [.int r5] M4 _
    refine q_if_ne (pc := 17) 24 k144_17 (by decide) (fun g6 => ?_) (fun g6 => ?_)
    · replace h := h.1 g6
      refine q_bipush (pc := 24) (v := (-3)) k144_24 (by decide) ?_
      refine q_istore_n (pc := 26) [some (.ref 97), some (.int a1), some (.int (-3)), none, none] k144_26 rfl (by decide) rfl ?_
      refine q_iload_n (pc := 27) k144_27 rfl ?_
      refine q_if_eq (pc := 28) 37 k144_28 (by decide) (fun g => absurd g (by decide)) (fun _ => ?_)
      refine q_aload_n (pc := 31) k144_31 rfl ?_
      refine q_iload_n (pc := 32) k144_32 rfl ?_
      refine q_invV (pc := 33) (As := [.int (-3)]) (st := []) k144_33 lm144_80 ov91 rfl rfl rfl (q_cat rfl) (Nat.le_of_ble_eq_true rfl) hd h ?_
      rintro v M7 ⟨r8, rfl, h⟩
      show q_Ex X d 144 (33 + 3) [some (.ref 97), some (.int a1), some (.int (-3)), none, none] [.int r8] M7 _
      exact q_ireturn (pc := 36) k144_36 rfl ⟨_, rfl, h⟩
    · replace h := h.2 g6
      refine q_iconst (pc := 20) (v := 0) k144_20 (by decide) ?_
      refine q_goto (pc := 21) 26 k144_21 (by decide) ?_
      refine q_istore_n (pc := 26) [some (.ref 97), some (.int a1), some (.int 0), none, none] k144_26 rfl (by decide) rfl ?_
      refine q_iload_n (pc := 27) k144_27 rfl ?_
      refine q_if_eq (pc := 28) 37 k144_28 (by decide) (fun _ => ?_) (fun g => absurd g (by decide))
      refine q_aload_n (pc := 37) k144_37 rfl ?_
      refine q_invV (pc := 38) (As := []) (st := []) k144_38 lm144_177 ov125 rfl rfl rfl (q_cat rfl) (Nat.le_of_ble_eq_true rfl) hd h ?_
      rintro v M9 ⟨r10, rfl, h⟩
      show q_Ex X d 144 (38 + 3) [some (.ref 97), some (.int a1), some (.int 0), none, none] [.int r10] M9 _
      refine q_istore_n (pc := 41) [some (.ref 97), some (.int a1), some (.int 0), some (.int r10), none] k144_41 rfl (by decide) rfl ?_
      refine q_aload_n (pc := 42) k144_42 rfl ?_
      refine q_getR (pc := 43) k144_43 fg144_13 rfl rfl ?_
      refine q_bipush (pc := 46) (v := 45) k144_46 (by decide) ?_
      refine q_iconst (pc := 48) (v := 3) k144_48 (by decide) ?_
      refine q_iload_n (pc := 49) k144_49 rfl ?_
      refine q_imul (pc := 50) k144_50 ?_
      refine q_iadd (pc := 51) k144_51 ?_
      refine q_iconst (pc := 52) (v := 1) k144_52 (by decide) ?_
      refine q_iastv (pc := 53) (k := (Int32.toNatClampNeg ((45 : Int32) + ((3 : Int32) * a1)))) k144_53 rfl h.1 rfl ?_
      replace h := h.2
      refine q_aload_n (pc := 54) k144_54 rfl ?_
      refine q_invV (pc := 55) (As := []) (st := []) k144_55 lm144_177 ov125 rfl rfl rfl (q_cat rfl) (Nat.le_of_ble_eq_true rfl) hd h ?_
      rintro v M11 ⟨r12, rfl, h⟩
      show q_Ex X d 144 (55 + 3) [some (.ref 97), some (.int a1), some (.int 0), some (.int r10), none] [.int r12] M11 _
      refine q_istore (pc := 58) [some (.ref 97), some (.int a1), some (.int 0), some (.int r10), some (.int r12)] k144_58 rfl (by decide) rfl ?_
      refine q_aload_n (pc := 60) k144_60 rfl ?_
      refine q_getR (pc := 61) k144_61 fg144_13 rfl rfl ?_
      refine q_bipush (pc := 64) (v := 45) k144_64 (by decide) ?_
      refine q_iconst (pc := 66) (v := 3) k144_66 (by decide) ?_
      refine q_iload_n (pc := 67) k144_67 rfl ?_
      refine q_imul (pc := 68) k144_68 ?_
      refine q_iadd (pc := 69) k144_69 ?_
      refine q_iconst (pc := 70) (v := 0) k144_70 (by decide) ?_
      refine q_iastv (pc := 71) (k := (Int32.toNatClampNeg ((45 : Int32) + ((3 : Int32) * a1)))) k144_71 rfl h.1 rfl ?_
      replace h := h.2
      refine q_iload_n (pc := 72) k144_72 rfl ?_
      refine q_iload (pc := 73) k144_73 rfl ?_
      refine q_isub (pc := 75) k144_75 ?_
      exact q_ireturn (pc := 76) k144_76 rfl ⟨_, rfl, h⟩
  · replace h := h.2 g3
    refine q_iconst (pc := 8) (v := (-1)) k144_8 (by decide) ?_
    refine q_goto (pc := 9) 26 k144_9 (by decide) ?_
    refine q_istore_n (pc := 26) [some (.ref 97), some (.int a1), some (.int (-1)), none, none] k144_26 rfl (by decide) rfl ?_
    refine q_iload_n (pc := 27) k144_27 rfl ?_
    refine q_if_eq (pc := 28) 37 k144_28 (by decide) (fun g => absurd g (by decide)) (fun _ => ?_)
    refine q_aload_n (pc := 31) k144_31 rfl ?_
    refine q_iload_n (pc := 32) k144_32 rfl ?_
    refine q_invV (pc := 33) (As := [.int (-1)]) (st := []) k144_33 lm144_80 ov91 rfl rfl rfl (q_cat rfl) (Nat.le_of_ble_eq_true rfl) hd h ?_
    rintro v M13 ⟨r14, rfl, h⟩
    show q_Ex X d 144 (33 + 3) [some (.ref 97), some (.int a1), some (.int (-1)), none, none] [.int r14] M13 _
    exact q_ireturn (pc := 36) k144_36 rfl ⟨_, rfl, h⟩
set_option maxRecDepth 20000 in
theorem vc145 {X : Nat × (Nat → Int32)} {d : Nat} (hd : 0 < d) {M : q_M} {K : Int32 → q_M → Prop} (h : q_Cv X (d - 1) 94 [.ref 99, .ref 114] M (fun M1 => q_Ex X d 145 20 [some (.ref 97), some (.int 0), some (.int (M1 99 2)), none] [] M1 (q_ri K))) : q_Ci X d 145 [.ref 97] M K := by
  show q_Ex X d 145 0 [some (.ref 97), none, none, none] [] M (q_ri K)
  refine q_aload_n (pc := 0) k145_0 rfl ?_
  refine q_getR (pc := 1) k145_1 fg145_13 rfl rfl ?_
  refine q_aload_n (pc := 4) k145_4 rfl ?_
  refine q_getR (pc := 5) k145_5 fg145_58 rfl rfl ?_
  refine q_invS (pc := 8) (As := [.ref 99, .ref 114]) (st := []) k145_8 lm145_202 os94 rfl rfl (q_cat rfl) (Nat.le_of_ble_eq_true rfl) hd h ?_
  rintro v M1 ⟨rfl, h⟩
  show q_Ex X d 145 (8 + 3) [some (.ref 97), none, none, none] [] M1 _
  refine q_iconst (pc := 11) (v := 0) k145_11 (by decide) ?_
  refine q_istore_n (pc := 12) [some (.ref 97), some (.int 0), none, none] k145_12 rfl (by decide) rfl ?_
  refine q_aload_n (pc := 13) k145_13 rfl ?_
  refine q_getR (pc := 14) k145_14 fg145_13 rfl rfl ?_
  refine q_iconst (pc := 17) (v := 2) k145_17 (by decide) ?_
  refine q_ialdv (pc := 18) (v := M1 99 2) k145_18 rfl (q_vin (by decide)) rfl ?_
  refine q_istore_n (pc := 19) [some (.ref 97), some (.int 0), some (.int (M1 99 2)), none] k145_19 rfl (by decide) rfl ?_
  exact h
set_option maxRecDepth 20000 in
theorem vc145_p20 {X : Nat × (Nat → Int32)} {d : Nat} (hd : 0 < d) {M : q_M} {a1 a2 : Int32} {K : Int32 → q_M → Prop} (h : ((a2 ≤ 0) → (q_Cv X (d - 1) 94 [.ref 114, .ref 99] M (fun M2 => K a1 M2))) ∧ ((¬ a2 ≤ 0) → (((¬ a1 = 0) → (q_Cv X (d - 1) 94 [.ref 114, .ref 99] M (fun M4 => K a1 M4))) ∧ ((a1 = 0) → (q_Ex X d 145 30 [some (.ref 97), some (.int a1), some (.int a2), some (.int 0)] [] M (q_ri K)))))) : q_Ex X d 145 20 [some (.ref 97), some (.int a1), some (.int a2), none] [] M (q_ri K) := by
  refine q_iload_n (pc := 20) k145_20 rfl ?_
  refine q_if_le (pc := 21) 131 k145_21 (by decide) (fun g1 => ?_) (fun g1 => ?_)
  · replace h := h.1 g1
    refine q_aload_n (pc := 131) k145_131 rfl ?_
    refine q_getR (pc := 132) k145_132 fg145_58 rfl rfl ?_
    refine q_aload_n (pc := 135) k145_135 rfl ?_
    refine q_getR (pc := 136) k145_136 fg145_13 rfl rfl ?_
    refine q_invS (pc := 139) (As := [.ref 114, .ref 99]) (st := []) k145_139 lm145_202 os94 rfl rfl (q_cat rfl) (Nat.le_of_ble_eq_true rfl) hd h ?_
    rintro v M2 ⟨rfl, h⟩
    show q_Ex X d 145 (139 + 3) [some (.ref 97), some (.int a1), some (.int a2), none] [] M2 _
    refine q_iload_n (pc := 142) k145_142 rfl ?_
    exact q_ireturn (pc := 143) k145_143 rfl ⟨_, rfl, h⟩
  · replace h := h.2 g1
    refine q_iload_n (pc := 24) k145_24 rfl ?_
    refine q_if_ne (pc := 25) 131 k145_25 (by decide) (fun g3 => ?_) (fun g3 => ?_)
    · replace h := h.1 g3
      refine q_aload_n (pc := 131) k145_131 rfl ?_
      refine q_getR (pc := 132) k145_132 fg145_58 rfl rfl ?_
      refine q_aload_n (pc := 135) k145_135 rfl ?_
      refine q_getR (pc := 136) k145_136 fg145_13 rfl rfl ?_
      refine q_invS (pc := 139) (As := [.ref 114, .ref 99]) (st := []) k145_139 lm145_202 os94 rfl rfl (q_cat rfl) (Nat.le_of_ble_eq_true rfl) hd h ?_
      rintro v M4 ⟨rfl, h⟩
      show q_Ex X d 145 (139 + 3) [some (.ref 97), some (.int a1), some (.int a2), none] [] M4 _
      refine q_iload_n (pc := 142) k145_142 rfl ?_
      exact q_ireturn (pc := 143) k145_143 rfl ⟨_, rfl, h⟩
    · replace h := h.2 g3
      refine q_iconst (pc := 28) (v := 0) k145_28 (by decide) ?_
      refine q_istore_n (pc := 29) [some (.ref 97), some (.int a1), some (.int a2), some (.int 0)] k145_29 rfl (by decide) rfl ?_
      exact h
set_option maxRecDepth 20000 in
theorem vc145_p30 {X : Nat × (Nat → Int32)} {d : Nat} (hd : 0 < d) {M : q_M} {a1 a2 a3 : Int32} {K : Int32 → q_M → Prop} (h : q_Ci X (d - 1) 95 [.ref 97] M (fun r2 M1 => ((r2 ≤ a3) → (q_Ex X d 145 92 [some (.ref 97), some (.int a1), some (.int a2), some (.int 0)] [] (q_set M1 99 2 a2) (q_ri K))) ∧ ((¬ r2 ≤ a3) → (q_Ci X (d - 1) 98 [.ref 97, .int a3] M1 (fun r5 M4 => ((r5 = 2) → (q_Ci X (d - 1) 100 [.ref 97, .int a3] M4 (fun r8 M7 => ((r8 < a2) → (q_Ex X d 145 30 [some (.ref 97), some (.int a1), some (.int a2), some (.int (a3 + 1))] [] M7 (q_ri K))) ∧ ((¬ r8 < a2) → (vp_in ((45 : Int32) + ((3 : Int32) * a3)) 135 ∧ (q_Ex X d 145 30 [some (.ref 97), some (.int a1), some (.int a2), some (.int (a3 + 1))] [] (q_set M7 99 (Int32.toNatClampNeg ((45 : Int32) + ((3 : Int32) * a3))) 0) (q_ri K))))))) ∧ ((¬ r5 = 2) → (q_Ci X (d - 1) 98 [.ref 97, .int a3] M4 (fun r11 M10 => ((¬ r11 = 3) → (q_Ex X d 145 30 [some (.ref 97), some (.int a1), some (.int a2), some (.int (a3 + 1))] [] M10 (q_ri K))) ∧ ((r11 = 3) → (q_Ci X (d - 1) 100 [.ref 97, .int a3] M10 (fun r14 M13 => ((r14 < a2) → (q_Ex X d 145 30 [some (.ref 97), some (.int a1), some (.int a2), some (.int (a3 + 1))] [] M13 (q_ri K))) ∧ ((¬ r14 < a2) → (vp_in ((45 : Int32) + ((3 : Int32) * a3)) 135 ∧ (q_Ex X d 145 30 [some (.ref 97), some (.int a1), some (.int a2), some (.int (a3 + 1))] [] (q_set M13 99 (Int32.toNatClampNeg ((45 : Int32) + ((3 : Int32) * a3))) 0) (q_ri K))))))))))))))) : q_Ex X d 145 30 [some (.ref 97), some (.int a1), some (.int a2), some (.int a3)] [] M (q_ri K) := by
  refine q_iload_n (pc := 30) k145_30 rfl ?_
  refine q_aload_n (pc := 31) k145_31 rfl ?_
  refine q_invV (pc := 32) (As := []) (st := [.int a3]) k145_32 lm145_64 ov95 rfl rfl rfl (q_cat rfl) (Nat.le_of_ble_eq_true rfl) hd h ?_
  rintro v M1 ⟨r2, rfl, h⟩
  show q_Ex X d 145 (32 + 3) [some (.ref 97), some (.int a1), some (.int a2), some (.int a3)] [.int r2, .int a3] M1 _
  refine q_icmp_ge (pc := 35) 83 k145_35 (by decide) (fun g3 => ?_) (fun g3 => ?_)
  · replace h := h.1 g3
    refine q_aload_n (pc := 83) k145_83 rfl ?_
    refine q_getR (pc := 84) k145_84 fg145_13 rfl rfl ?_
    refine q_iconst (pc := 87) (v := 2) k145_87 (by decide) ?_
    refine q_iload_n (pc := 88) k145_88 rfl ?_
    refine q_iastv (pc := 89) (k := 2) k145_89 rfl (q_vin (by decide)) rfl ?_
    refine q_iconst (pc := 90) (v := 0) k145_90 (by decide) ?_
    refine q_istore_n (pc := 91) [some (.ref 97), some (.int a1), some (.int a2), some (.int 0)] k145_91 rfl (by decide) rfl ?_
    exact h
  · replace h := h.2 g3
    refine q_aload_n (pc := 38) k145_38 rfl ?_
    refine q_iload_n (pc := 39) k145_39 rfl ?_
    refine q_invV (pc := 40) (As := [.int a3]) (st := []) k145_40 lm145_106 ov98 rfl rfl rfl (q_cat rfl) (Nat.le_of_ble_eq_true rfl) hd h ?_
    rintro v M4 ⟨r5, rfl, h⟩
    show q_Ex X d 145 (40 + 3) [some (.ref 97), some (.int a1), some (.int a2), some (.int a3)] [.int r5] M4 _
    refine q_iconst (pc := 43) (v := 2) k145_43 (by decide) ?_
    refine q_icmp_eq (pc := 44) 56 k145_44 (by decide) (fun g6 => ?_) (fun g6 => ?_)
    · replace h := h.1 g6
      refine q_aload_n (pc := 56) k145_56 rfl ?_
      refine q_iload_n (pc := 57) k145_57 rfl ?_
      refine q_invV (pc := 58) (As := [.int a3]) (st := []) k145_58 lm145_109 ov100 rfl rfl rfl (q_cat rfl) (Nat.le_of_ble_eq_true rfl) hd h ?_
      rintro v M7 ⟨r8, rfl, h⟩
      show q_Ex X d 145 (58 + 3) [some (.ref 97), some (.int a1), some (.int a2), some (.int a3)] [.int r8] M7 _
      refine q_iload_n (pc := 61) k145_61 rfl ?_
      refine q_icmp_lt (pc := 62) 77 k145_62 (by decide) (fun g9 => ?_) (fun g9 => ?_)
      · replace h := h.1 g9
        refine q_iinc (pc := 77) (v := a3 + 1) [some (.ref 97), some (.int a1), some (.int a2), some (.int (a3 + 1))] k145_77 rfl rfl rfl (by decide) rfl ?_
        refine q_goto (pc := 80) 30 k145_80 (by decide) ?_
        exact h
      · replace h := h.2 g9
        refine q_aload_n (pc := 65) k145_65 rfl ?_
        refine q_getR (pc := 66) k145_66 fg145_13 rfl rfl ?_
        refine q_bipush (pc := 69) (v := 45) k145_69 (by decide) ?_
        refine q_iconst (pc := 71) (v := 3) k145_71 (by decide) ?_
        refine q_iload_n (pc := 72) k145_72 rfl ?_
        refine q_imul (pc := 73) k145_73 ?_
        refine q_iadd (pc := 74) k145_74 ?_
        refine q_iconst (pc := 75) (v := 0) k145_75 (by decide) ?_
        refine q_iastv (pc := 76) (k := (Int32.toNatClampNeg ((45 : Int32) + ((3 : Int32) * a3)))) k145_76 rfl h.1 rfl ?_
        replace h := h.2
        refine q_iinc (pc := 77) (v := a3 + 1) [some (.ref 97), some (.int a1), some (.int a2), some (.int (a3 + 1))] k145_77 rfl rfl rfl (by decide) rfl ?_
        refine q_goto (pc := 80) 30 k145_80 (by decide) ?_
        exact h
    · replace h := h.2 g6
      refine q_aload_n (pc := 47) k145_47 rfl ?_
      refine q_iload_n (pc := 48) k145_48 rfl ?_
      refine q_invV (pc := 49) (As := [.int a3]) (st := []) k145_49 lm145_106 ov98 rfl rfl rfl (q_cat rfl) (Nat.le_of_ble_eq_true rfl) hd h ?_
      rintro v M10 ⟨r11, rfl, h⟩
      show q_Ex X d 145 (49 + 3) [some (.ref 97), some (.int a1), some (.int a2), some (.int a3)] [.int r11] M10 _
      refine q_iconst (pc := 52) (v := 3) k145_52 (by decide) ?_
      refine q_icmp_ne (pc := 53) 77 k145_53 (by decide) (fun g12 => ?_) (fun g12 => ?_)
      · replace h := h.1 g12
        refine q_iinc (pc := 77) (v := a3 + 1) [some (.ref 97), some (.int a1), some (.int a2), some (.int (a3 + 1))] k145_77 rfl rfl rfl (by decide) rfl ?_
        refine q_goto (pc := 80) 30 k145_80 (by decide) ?_
        exact h
      · replace h := h.2 g12
        refine q_aload_n (pc := 56) k145_56 rfl ?_
        refine q_iload_n (pc := 57) k145_57 rfl ?_
        refine q_invV (pc := 58) (As := [.int a3]) (st := []) k145_58 lm145_109 ov100 rfl rfl rfl (q_cat rfl) (Nat.le_of_ble_eq_true rfl) hd h ?_
        rintro v M13 ⟨r14, rfl, h⟩
        show q_Ex X d 145 (58 + 3) [some (.ref 97), some (.int a1), some (.int a2), some (.int a3)] [.int r14] M13 _
        refine q_iload_n (pc := 61) k145_61 rfl ?_
        refine q_icmp_lt (pc := 62) 77 k145_62 (by decide) (fun g15 => ?_) (fun g15 => ?_)
        · replace h := h.1 g15
          refine q_iinc (pc := 77) (v := a3 + 1) [some (.ref 97), some (.int a1), some (.int a2), some (.int (a3 + 1))] k145_77 rfl rfl rfl (by decide) rfl ?_
          refine q_goto (pc := 80) 30 k145_80 (by decide) ?_
          exact h
        · replace h := h.2 g15
          refine q_aload_n (pc := 65) k145_65 rfl ?_
          refine q_getR (pc := 66) k145_66 fg145_13 rfl rfl ?_
          refine q_bipush (pc := 69) (v := 45) k145_69 (by decide) ?_
          refine q_iconst (pc := 71) (v := 3) k145_71 (by decide) ?_
          refine q_iload_n (pc := 72) k145_72 rfl ?_
          refine q_imul (pc := 73) k145_73 ?_
          refine q_iadd (pc := 74) k145_74 ?_
          refine q_iconst (pc := 75) (v := 0) k145_75 (by decide) ?_
          refine q_iastv (pc := 76) (k := (Int32.toNatClampNeg ((45 : Int32) + ((3 : Int32) * a3)))) k145_76 rfl h.1 rfl ?_
          replace h := h.2
          refine q_iinc (pc := 77) (v := a3 + 1) [some (.ref 97), some (.int a1), some (.int a2), some (.int (a3 + 1))] k145_77 rfl rfl rfl (by decide) rfl ?_
          refine q_goto (pc := 80) 30 k145_80 (by decide) ?_
          exact h
set_option maxRecDepth 20000 in
theorem vc145_p92 {X : Nat × (Nat → Int32)} {d : Nat} (hd : 0 < d) {M : q_M} {a1 a2 a3 : Int32} {K : Int32 → q_M → Prop} (h : ((a2 ≤ a3) → (q_Cv X (d - 1) 120 [.ref 97, .int (-9)] M (fun M2 => (((M2 97 20) ≤ 0) → (q_Ex X d 145 20 [some (.ref 97), some (.int a1), some (.int (a2 + (-1))), none] [] M2 (q_ri K))) ∧ ((¬ (M2 97 20) ≤ 0) → (q_Ex X d 145 20 [some (.ref 97), some (.int a2), some (.int (a2 + (-1))), none] [] M2 (q_ri K)))))) ∧ ((¬ a2 ≤ a3) → (vp_in a3 3 ∧ (q_Ex X d 145 92 [some (.ref 97), some (.int a1), some (.int a2), some (.int (a3 + 1))] [] (q_set M 109 (Int32.toNatClampNeg a3) a3) (q_ri K))))) : q_Ex X d 145 92 [some (.ref 97), some (.int a1), some (.int a2), some (.int a3)] [] M (q_ri K) := by
  refine q_iload_n (pc := 92) k145_92 rfl ?_
  refine q_iload_n (pc := 93) k145_93 rfl ?_
  refine q_icmp_ge (pc := 94) 110 k145_94 (by decide) (fun g1 => ?_) (fun g1 => ?_)
  · replace h := h.1 g1
    refine q_aload_n (pc := 110) k145_110 rfl ?_
    refine q_bipush (pc := 111) (v := (-9)) k145_111 (by decide) ?_
    refine q_invV (pc := 113) (As := [.int (-9)]) (st := []) k145_113 lm145_167 ov120 rfl rfl rfl (q_cat rfl) (Nat.le_of_ble_eq_true rfl) hd h ?_
    rintro v M2 ⟨rfl, h⟩
    show q_Ex X d 145 (113 + 3) [some (.ref 97), some (.int a1), some (.int a2), some (.int a3)] [] M2 _
    refine q_aload_n (pc := 116) k145_116 rfl ?_
    refine q_getIv (pc := 117) (v := M2 97 20) k145_117 fg145_147 rfl rfl rfl ?_
    refine q_if_le (pc := 120) 125 k145_120 (by decide) (fun g3 => ?_) (fun g3 => ?_)
    · replace h := h.1 g3
      refine q_iinc (pc := 125) (v := a2 + (-1)) [some (.ref 97), some (.int a1), some (.int (a2 + (-1))), some (.int a3)] k145_125 rfl rfl rfl (by decide) rfl ?_
      refine q_goto (pc := 128) 20 k145_128 (by decide) ?_
      exact q_forget [some (.ref 97), some (.int a1), some (.int (a2 + (-1))), none] (q_subOk (And.intro rfl (And.intro rfl (And.intro rfl (trivial))))) h
    · replace h := h.2 g3
      refine q_iload_n (pc := 123) k145_123 rfl ?_
      refine q_istore_n (pc := 124) [some (.ref 97), some (.int a2), some (.int a2), some (.int a3)] k145_124 rfl (by decide) rfl ?_
      refine q_iinc (pc := 125) (v := a2 + (-1)) [some (.ref 97), some (.int a2), some (.int (a2 + (-1))), some (.int a3)] k145_125 rfl rfl rfl (by decide) rfl ?_
      refine q_goto (pc := 128) 20 k145_128 (by decide) ?_
      exact q_forget [some (.ref 97), some (.int a2), some (.int (a2 + (-1))), none] (q_subOk (And.intro rfl (And.intro rfl (And.intro rfl (trivial))))) h
  · replace h := h.2 g1
    refine q_aload_n (pc := 97) k145_97 rfl ?_
    refine q_getR (pc := 98) k145_98 fg145_43 rfl rfl ?_
    refine q_iload_n (pc := 101) k145_101 rfl ?_
    refine q_iload_n (pc := 102) k145_102 rfl ?_
    refine q_iastv (pc := 103) (k := (Int32.toNatClampNeg a3)) k145_103 rfl h.1 rfl ?_
    replace h := h.2
    refine q_iinc (pc := 104) (v := a3 + 1) [some (.ref 97), some (.int a1), some (.int a2), some (.int (a3 + 1))] k145_104 rfl rfl rfl (by decide) rfl ?_
    refine q_goto (pc := 107) 92 k145_107 (by decide) ?_
    exact h
set_option maxRecDepth 20000 in
theorem vc146 {X : Nat × (Nat → Int32)} {d : Nat} {M : q_M} {a0 a1 a2 : Int32} {K : Int32 → q_M → Prop} (h : q_Ex X d 146 8 [some (.int a0), some (.int a1), some (.int a2), some (.int 1), some (.int 1), some (.int 1), none, none] [] M (q_ri K)) : q_Ci X d 146 [.int a0, .int a1, .int a2] M K := by
  show q_Ex X d 146 0 [some (.int a0), some (.int a1), some (.int a2), none, none, none, none, none] [] M (q_ri K)
  refine q_iconst (pc := 0) (v := 1) k146_0 (by decide) ?_
  refine q_istore_n (pc := 1) [some (.int a0), some (.int a1), some (.int a2), some (.int 1), none, none, none, none] k146_1 rfl (by decide) rfl ?_
  refine q_iconst (pc := 2) (v := 1) k146_2 (by decide) ?_
  refine q_istore (pc := 3) [some (.int a0), some (.int a1), some (.int a2), some (.int 1), some (.int 1), none, none, none] k146_3 rfl (by decide) rfl ?_
  refine q_iconst (pc := 5) (v := 1) k146_5 (by decide) ?_
  refine q_istore (pc := 6) [some (.int a0), some (.int a1), some (.int a2), some (.int 1), some (.int 1), some (.int 1), none, none] k146_6 rfl (by decide) rfl ?_
  exact h
set_option maxRecDepth 20000 in
theorem vc146_p8 {X : Nat × (Nat → Int32)} {d : Nat} {M : q_M} {a0 a1 a2 a3 a4 a5 : Int32} {K : Int32 → q_M → Prop} (h : ((a0 < a5) → (¬ a4 = 0 ∧ (K (a3 / a4) M))) ∧ ((¬ a0 < a5) → (q_Ex X d 146 17 [some (.int a0), some (.int a1), some (.int a2), some (.int a3), some (.int a4), some (.int a5), some (.int 1), none] [] M (q_ri K)))) : q_Ex X d 146 8 [some (.int a0), some (.int a1), some (.int a2), some (.int a3), some (.int a4), some (.int a5), none, none] [] M (q_ri K) := by
  refine q_iload (pc := 8) k146_8 rfl ?_
  refine q_iload_n (pc := 10) k146_10 rfl ?_
  refine q_icmp_gt (pc := 11) 79 k146_11 (by decide) (fun g1 => ?_) (fun g1 => ?_)
  · replace h := h.1 g1
    refine q_iload_n (pc := 79) k146_79 rfl ?_
    refine q_iload (pc := 80) k146_80 rfl ?_
    refine q_idiv (pc := 82) k146_82 h.1 ?_
    replace h := h.2
    exact q_ireturn (pc := 83) k146_83 rfl ⟨_, rfl, h⟩
  · replace h := h.2 g1
    refine q_iconst (pc := 14) (v := 1) k146_14 (by decide) ?_
    refine q_istore (pc := 15) [some (.int a0), some (.int a1), some (.int a2), some (.int a3), some (.int a4), some (.int a5), some (.int 1), none] k146_15 rfl (by decide) rfl ?_
    exact h
set_option maxRecDepth 20000 in
theorem vc146_p17 {X : Nat × (Nat → Int32)} {d : Nat} (hd : 0 < d) {M : q_M} {a0 a1 a2 a3 a4 a5 a6 : Int32} {K : Int32 → q_M → Prop} (h : ((a1 < a6) → (q_Ex X d 146 8 [some (.int a0), some (.int a1), some (.int a2), some (.int a3), some (.int a4), some (.int (a5 + 1)), none, none] [] M (q_ri K))) ∧ ((¬ a1 < a6) → (q_Ci X (d - 1) 132 [.int (a3 * (((a5 + a6) + a2) - 1)), .int (a4 * ((a5 + a6) - 1))] M (fun r3 M2 => ¬ r3 = 0 ∧ (¬ r3 = 0 ∧ (q_Ex X d 146 17 [some (.int a0), some (.int a1), some (.int a2), some (.int ((a3 * (((a5 + a6) + a2) - 1)) / r3)), some (.int ((a4 * ((a5 + a6) - 1)) / r3)), some (.int a5), some (.int (a6 + 1)), none] [] M2 (q_ri K))))))) : q_Ex X d 146 17 [some (.int a0), some (.int a1), some (.int a2), some (.int a3), some (.int a4), some (.int a5), some (.int a6), none] [] M (q_ri K) := by
  refine q_iload (pc := 17) k146_17 rfl ?_
  refine q_iload_n (pc := 19) k146_19 rfl ?_
  refine q_icmp_gt (pc := 20) 73 k146_20 (by decide) (fun g1 => ?_) (fun g1 => ?_)
  · replace h := h.1 g1
    refine q_iinc (pc := 73) (v := a5 + 1) [some (.int a0), some (.int a1), some (.int a2), some (.int a3), some (.int a4), some (.int (a5 + 1)), some (.int a6), none] k146_73 rfl rfl rfl (by decide) rfl ?_
    refine q_goto (pc := 76) 8 k146_76 (by decide) ?_
    exact q_forget [some (.int a0), some (.int a1), some (.int a2), some (.int a3), some (.int a4), some (.int (a5 + 1)), none, none] (q_subOk (And.intro rfl (And.intro rfl (And.intro rfl (And.intro rfl (And.intro rfl (And.intro rfl (trivial)))))))) h
  · replace h := h.2 g1
    refine q_iload_n (pc := 23) k146_23 rfl ?_
    refine q_iload (pc := 24) k146_24 rfl ?_
    refine q_iload (pc := 26) k146_26 rfl ?_
    refine q_iadd (pc := 28) k146_28 ?_
    refine q_iload_n (pc := 29) k146_29 rfl ?_
    refine q_iadd (pc := 30) k146_30 ?_
    refine q_iconst (pc := 31) (v := 1) k146_31 (by decide) ?_
    refine q_isub (pc := 32) k146_32 ?_
    refine q_imul (pc := 33) k146_33 ?_
    refine q_istore_n (pc := 34) [some (.int a0), some (.int a1), some (.int a2), some (.int (a3 * (((a5 + a6) + a2) - 1))), some (.int a4), some (.int a5), some (.int a6), none] k146_34 rfl (by decide) rfl ?_
    refine q_iload (pc := 35) k146_35 rfl ?_
    refine q_iload (pc := 37) k146_37 rfl ?_
    refine q_iload (pc := 39) k146_39 rfl ?_
    refine q_iadd (pc := 41) k146_41 ?_
    refine q_iconst (pc := 42) (v := 1) k146_42 (by decide) ?_
    refine q_isub (pc := 43) k146_43 ?_
    refine q_imul (pc := 44) k146_44 ?_
    refine q_istore (pc := 45) [some (.int a0), some (.int a1), some (.int a2), some (.int (a3 * (((a5 + a6) + a2) - 1))), some (.int (a4 * ((a5 + a6) - 1))), some (.int a5), some (.int a6), none] k146_45 rfl (by decide) rfl ?_
    refine q_iload_n (pc := 47) k146_47 rfl ?_
    refine q_iload (pc := 48) k146_48 rfl ?_
    refine q_invS (pc := 50) (As := [.int (a3 * (((a5 + a6) + a2) - 1)), .int (a4 * ((a5 + a6) - 1))]) (st := []) k146_50 lm146_187 os132 rfl rfl (q_cat rfl) (Nat.le_of_ble_eq_true rfl) hd h ?_
    rintro v M2 ⟨r3, rfl, h⟩
    show q_Ex X d 146 (50 + 3) [some (.int a0), some (.int a1), some (.int a2), some (.int (a3 * (((a5 + a6) + a2) - 1))), some (.int (a4 * ((a5 + a6) - 1))), some (.int a5), some (.int a6), none] [.int r3] M2 _
    refine q_istore (pc := 53) [some (.int a0), some (.int a1), some (.int a2), some (.int (a3 * (((a5 + a6) + a2) - 1))), some (.int (a4 * ((a5 + a6) - 1))), some (.int a5), some (.int a6), some (.int r3)] k146_53 rfl (by decide) rfl ?_
    refine q_iload_n (pc := 55) k146_55 rfl ?_
    refine q_iload (pc := 56) k146_56 rfl ?_
    refine q_idiv (pc := 58) k146_58 h.1 ?_
    replace h := h.2
    refine q_istore_n (pc := 59) [some (.int a0), some (.int a1), some (.int a2), some (.int ((a3 * (((a5 + a6) + a2) - 1)) / r3)), some (.int (a4 * ((a5 + a6) - 1))), some (.int a5), some (.int a6), some (.int r3)] k146_59 rfl (by decide) rfl ?_
    refine q_iload (pc := 60) k146_60 rfl ?_
    refine q_iload (pc := 62) k146_62 rfl ?_
    refine q_idiv (pc := 64) k146_64 h.1 ?_
    replace h := h.2
    refine q_istore (pc := 65) [some (.int a0), some (.int a1), some (.int a2), some (.int ((a3 * (((a5 + a6) + a2) - 1)) / r3)), some (.int ((a4 * ((a5 + a6) - 1)) / r3)), some (.int a5), some (.int a6), some (.int r3)] k146_65 rfl (by decide) rfl ?_
    refine q_iinc (pc := 67) (v := a6 + 1) [some (.int a0), some (.int a1), some (.int a2), some (.int ((a3 * (((a5 + a6) + a2) - 1)) / r3)), some (.int ((a4 * ((a5 + a6) - 1)) / r3)), some (.int a5), some (.int (a6 + 1)), some (.int r3)] k146_67 rfl rfl rfl (by decide) rfl ?_
    refine q_goto (pc := 70) 17 k146_70 (by decide) ?_
    exact q_forget [some (.int a0), some (.int a1), some (.int a2), some (.int ((a3 * (((a5 + a6) + a2) - 1)) / r3)), some (.int ((a4 * ((a5 + a6) - 1)) / r3)), some (.int a5), some (.int (a6 + 1)), none] (q_subOk (And.intro rfl (And.intro rfl (And.intro rfl (And.intro rfl (And.intro rfl (And.intro rfl (And.intro rfl (trivial))))))))) h
set_option maxRecDepth 20000 in
theorem vc147 {X : Nat × (Nat → Int32)} {d : Nat} (hd : 0 < d) {M : q_M} {a1 a2 a3 : Int32} {K : Int32 → q_M → Prop} (h : ((a1 < 0) → (q_Ci X (d - 1) 91 [.ref 97, .int (-4)] M (fun r3 M2 => K r3 M2))) ∧ ((¬ a1 < 0) → (((a2 < 0) → (q_Ci X (d - 1) 91 [.ref 97, .int (-4)] M (fun r6 M5 => K r6 M5))) ∧ ((¬ a2 < 0) → (((0 ≤ a3) → (((4 < a1) → (q_Ci X (d - 1) 91 [.ref 97, .int (-6)] M (fun r10 M9 => K r10 M9))) ∧ ((¬ 4 < a1) → (((4 < a2) → (q_Ci X (d - 1) 91 [.ref 97, .int (-6)] M (fun r13 M12 => K r13 M12))) ∧ ((¬ 4 < a2) → (((a3 ≤ 4) → (q_Ci X (d - 1) 146 [.int a1, .int a2, .int a3] M (fun r16 M15 => K r16 M15))) ∧ ((¬ a3 ≤ 4) → (q_Ci X (d - 1) 91 [.ref 97, .int (-6)] M (fun r18 M17 => K r18 M17))))))))) ∧ ((¬ 0 ≤ a3) → (q_Ci X (d - 1) 91 [.ref 97, .int (-4)] M (fun r20 M19 => K r20 M19)))))))) : q_Ci X d 147 [.ref 97, .int a1, .int a2, .int a3] M K := by
  show q_Ex X d 147 0 [some (.ref 97), some (.int a1), some (.int a2), some (.int a3), none] [] M (q_ri K)
  refine q_iload_n (pc := 0) k147_0 rfl ?_
  refine q_if_lt (pc := 1) 12 k147_1 (by decide) (fun g1 => ?_) (fun g1 => ?_)
  · replace h := h.1 g1
    refine q_bipush (pc := 12) (v := (-4)) k147_12 (by decide) ?_
    refine q_goto (pc := 14) 38 k147_14 (by decide) ?_
    refine q_istore (pc := 38) [some (.ref 97), some (.int a1), some (.int a2), some (.int a3), some (.int (-4))] k147_38 rfl (by decide) rfl ?_
    refine q_iload (pc := 40) k147_40 rfl ?_
    refine q_if_eq (pc := 42) 54 k147_42 (by decide) (fun g => absurd g (by decide)) (fun _ => ?_)
    refine q_aload_n (pc := 45) k147_45 rfl ?_
    refine q_iload (pc := 46) k147_46 rfl ?_
    refine q_invV (pc := 48) (As := [.int (-4)]) (st := []) k147_48 lm147_80 ov91 rfl rfl rfl (q_cat rfl) (Nat.le_of_ble_eq_true rfl) hd h ?_
    rintro v M2 ⟨r3, rfl, h⟩
    show q_Ex X d 147 (48 + 3) [some (.ref 97), some (.int a1), some (.int a2), some (.int a3), some (.int (-4))] [.int r3] M2 _
    refine q_goto (pc := 51) 60 k147_51 (by decide) ?_
    exact q_ireturn (pc := 60) k147_60 rfl ⟨_, rfl, h⟩
  · replace h := h.2 g1
    refine q_iload_n (pc := 4) k147_4 rfl ?_
    refine q_if_lt (pc := 5) 12 k147_5 (by decide) (fun g4 => ?_) (fun g4 => ?_)
    · replace h := h.1 g4
      refine q_bipush (pc := 12) (v := (-4)) k147_12 (by decide) ?_
      refine q_goto (pc := 14) 38 k147_14 (by decide) ?_
      refine q_istore (pc := 38) [some (.ref 97), some (.int a1), some (.int a2), some (.int a3), some (.int (-4))] k147_38 rfl (by decide) rfl ?_
      refine q_iload (pc := 40) k147_40 rfl ?_
      refine q_if_eq (pc := 42) 54 k147_42 (by decide) (fun g => absurd g (by decide)) (fun _ => ?_)
      refine q_aload_n (pc := 45) k147_45 rfl ?_
      refine q_iload (pc := 46) k147_46 rfl ?_
      refine q_invV (pc := 48) (As := [.int (-4)]) (st := []) k147_48 lm147_80 ov91 rfl rfl rfl (q_cat rfl) (Nat.le_of_ble_eq_true rfl) hd h ?_
      rintro v M5 ⟨r6, rfl, h⟩
      show q_Ex X d 147 (48 + 3) [some (.ref 97), some (.int a1), some (.int a2), some (.int a3), some (.int (-4))] [.int r6] M5 _
      refine q_goto (pc := 51) 60 k147_51 (by decide) ?_
      exact q_ireturn (pc := 60) k147_60 rfl ⟨_, rfl, h⟩
    · replace h := h.2 g4
      refine q_iload_n (pc := 8) k147_8 rfl ?_
      refine q_if_ge (pc := 9) 17 k147_9 (by decide) (fun g7 => ?_) (fun g7 => ?_)
      · replace h := h.1 g7
        refine q_iload_n (pc := 17) k147_17 rfl ?_
        refine q_iconst (pc := 18) (v := 4) k147_18 (by decide) ?_
        refine q_icmp_gt (pc := 19) 32 k147_19 (by decide) (fun g8 => ?_) (fun g8 => ?_)
        · replace h := h.1 g8
          refine q_bipush (pc := 32) (v := (-6)) k147_32 (by decide) ?_
          refine q_goto (pc := 34) 38 k147_34 (by decide) ?_
          refine q_istore (pc := 38) [some (.ref 97), some (.int a1), some (.int a2), some (.int a3), some (.int (-6))] k147_38 rfl (by decide) rfl ?_
          refine q_iload (pc := 40) k147_40 rfl ?_
          refine q_if_eq (pc := 42) 54 k147_42 (by decide) (fun g => absurd g (by decide)) (fun _ => ?_)
          refine q_aload_n (pc := 45) k147_45 rfl ?_
          refine q_iload (pc := 46) k147_46 rfl ?_
          refine q_invV (pc := 48) (As := [.int (-6)]) (st := []) k147_48 lm147_80 ov91 rfl rfl rfl (q_cat rfl) (Nat.le_of_ble_eq_true rfl) hd h ?_
          rintro v M9 ⟨r10, rfl, h⟩
          show q_Ex X d 147 (48 + 3) [some (.ref 97), some (.int a1), some (.int a2), some (.int a3), some (.int (-6))] [.int r10] M9 _
          refine q_goto (pc := 51) 60 k147_51 (by decide) ?_
          exact q_ireturn (pc := 60) k147_60 rfl ⟨_, rfl, h⟩
        · replace h := h.2 g8
          refine q_iload_n (pc := 22) k147_22 rfl ?_
          refine q_iconst (pc := 23) (v := 4) k147_23 (by decide) ?_
          refine q_icmp_gt (pc := 24) 32 k147_24 (by decide) (fun g11 => ?_) (fun g11 => ?_)
          · replace h := h.1 g11
            refine q_bipush (pc := 32) (v := (-6)) k147_32 (by decide) ?_
            refine q_goto (pc := 34) 38 k147_34 (by decide) ?_
            refine q_istore (pc := 38) [some (.ref 97), some (.int a1), some (.int a2), some (.int a3), some (.int (-6))] k147_38 rfl (by decide) rfl ?_
            refine q_iload (pc := 40) k147_40 rfl ?_
            refine q_if_eq (pc := 42) 54 k147_42 (by decide) (fun g => absurd g (by decide)) (fun _ => ?_)
            refine q_aload_n (pc := 45) k147_45 rfl ?_
            refine q_iload (pc := 46) k147_46 rfl ?_
            refine q_invV (pc := 48) (As := [.int (-6)]) (st := []) k147_48 lm147_80 ov91 rfl rfl rfl (q_cat rfl) (Nat.le_of_ble_eq_true rfl) hd h ?_
            rintro v M12 ⟨r13, rfl, h⟩
            show q_Ex X d 147 (48 + 3) [some (.ref 97), some (.int a1), some (.int a2), some (.int a3), some (.int (-6))] [.int r13] M12 _
            refine q_goto (pc := 51) 60 k147_51 (by decide) ?_
            exact q_ireturn (pc := 60) k147_60 rfl ⟨_, rfl, h⟩
          · replace h := h.2 g11
            refine q_iload_n (pc := 27) k147_27 rfl ?_
            refine q_iconst (pc := 28) (v := 4) k147_28 (by decide) ?_
            refine q_icmp_le (pc := 29) 37 k147_29 (by decide) (fun g14 => ?_) (fun g14 => ?_)
            · replace h := h.1 g14
              refine q_iconst (pc := 37) (v := 0) k147_37 (by decide) ?_
              refine q_istore (pc := 38) [some (.ref 97), some (.int a1), some (.int a2), some (.int a3), some (.int 0)] k147_38 rfl (by decide) rfl ?_
              refine q_iload (pc := 40) k147_40 rfl ?_
              refine q_if_eq (pc := 42) 54 k147_42 (by decide) (fun _ => ?_) (fun g => absurd g (by decide))
              refine q_iload_n (pc := 54) k147_54 rfl ?_
              refine q_iload_n (pc := 55) k147_55 rfl ?_
              refine q_iload_n (pc := 56) k147_56 rfl ?_
              refine q_invS (pc := 57) (As := [.int a1, .int a2, .int a3]) (st := []) k147_57 lm147_206 os146 rfl rfl (q_cat rfl) (Nat.le_of_ble_eq_true rfl) hd h ?_
              rintro v M15 ⟨r16, rfl, h⟩
              show q_Ex X d 147 (57 + 3) [some (.ref 97), some (.int a1), some (.int a2), some (.int a3), some (.int 0)] [.int r16] M15 _
              exact q_ireturn (pc := 60) k147_60 rfl ⟨_, rfl, h⟩
            · replace h := h.2 g14
              refine q_bipush (pc := 32) (v := (-6)) k147_32 (by decide) ?_
              refine q_goto (pc := 34) 38 k147_34 (by decide) ?_
              refine q_istore (pc := 38) [some (.ref 97), some (.int a1), some (.int a2), some (.int a3), some (.int (-6))] k147_38 rfl (by decide) rfl ?_
              refine q_iload (pc := 40) k147_40 rfl ?_
              refine q_if_eq (pc := 42) 54 k147_42 (by decide) (fun g => absurd g (by decide)) (fun _ => ?_)
              refine q_aload_n (pc := 45) k147_45 rfl ?_
              refine q_iload (pc := 46) k147_46 rfl ?_
              refine q_invV (pc := 48) (As := [.int (-6)]) (st := []) k147_48 lm147_80 ov91 rfl rfl rfl (q_cat rfl) (Nat.le_of_ble_eq_true rfl) hd h ?_
              rintro v M17 ⟨r18, rfl, h⟩
              show q_Ex X d 147 (48 + 3) [some (.ref 97), some (.int a1), some (.int a2), some (.int a3), some (.int (-6))] [.int r18] M17 _
              refine q_goto (pc := 51) 60 k147_51 (by decide) ?_
              exact q_ireturn (pc := 60) k147_60 rfl ⟨_, rfl, h⟩
      · replace h := h.2 g7
        refine q_bipush (pc := 12) (v := (-4)) k147_12 (by decide) ?_
        refine q_goto (pc := 14) 38 k147_14 (by decide) ?_
        refine q_istore (pc := 38) [some (.ref 97), some (.int a1), some (.int a2), some (.int a3), some (.int (-4))] k147_38 rfl (by decide) rfl ?_
        refine q_iload (pc := 40) k147_40 rfl ?_
        refine q_if_eq (pc := 42) 54 k147_42 (by decide) (fun g => absurd g (by decide)) (fun _ => ?_)
        refine q_aload_n (pc := 45) k147_45 rfl ?_
        refine q_iload (pc := 46) k147_46 rfl ?_
        refine q_invV (pc := 48) (As := [.int (-4)]) (st := []) k147_48 lm147_80 ov91 rfl rfl rfl (q_cat rfl) (Nat.le_of_ble_eq_true rfl) hd h ?_
        rintro v M19 ⟨r20, rfl, h⟩
        show q_Ex X d 147 (48 + 3) [some (.ref 97), some (.int a1), some (.int a2), some (.int a3), some (.int (-4))] [.int r20] M19 _
        refine q_goto (pc := 51) 60 k147_51 (by decide) ?_
        exact q_ireturn (pc := 60) k147_60 rfl ⟨_, rfl, h⟩
set_option maxRecDepth 20000 in
theorem vc148 {X : Nat × (Nat → Int32)} {d : Nat} (hd : 0 < d) {M : q_M} {a1 a2 : Int32} {K : Int32 → q_M → Prop} (h : q_Ci X (d - 1) 97 [.ref 97, .int a1] M (fun r2 M1 => ((¬ r2 = 0) → (q_Ci X (d - 1) 92 [.int a2, .int 2] M1 (fun r5 M4 => ((¬ r5 = 0) → (vp_in ((12 : Int32) + a1) 135 ∧ (((¬ (M4 99 (Int32.toNatClampNeg ((12 : Int32) + a1))) = 10) → (vp_in ((12 : Int32) + a1) 135 ∧ (vp_in (((15 : Int32) + ((10 : Int32) * a1)) + (M4 99 (Int32.toNatClampNeg ((12 : Int32) + a1)))) 135 ∧ (vp_in ((12 : Int32) + a1) 135 ∧ (vp_in ((12 : Int32) + a1) 135 ∧ (vp_in ((12 : Int32) + a1) 135 ∧ (K ((q_set (q_set M4 99 (Int32.toNatClampNeg (((15 : Int32) + ((10 : Int32) * a1)) + (M4 99 (Int32.toNatClampNeg ((12 : Int32) + a1))))) a2) 99 (Int32.toNatClampNeg ((12 : Int32) + a1)) (((q_set M4 99 (Int32.toNatClampNeg (((15 : Int32) + ((10 : Int32) * a1)) + (M4 99 (Int32.toNatClampNeg ((12 : Int32) + a1))))) a2) 99 (Int32.toNatClampNeg ((12 : Int32) + a1))) + 1)) 99 (Int32.toNatClampNeg ((12 : Int32) + a1))) (q_set (q_set M4 99 (Int32.toNatClampNeg (((15 : Int32) + ((10 : Int32) * a1)) + (M4 99 (Int32.toNatClampNeg ((12 : Int32) + a1))))) a2) 99 (Int32.toNatClampNeg ((12 : Int32) + a1)) (((q_set M4 99 (Int32.toNatClampNeg (((15 : Int32) + ((10 : Int32) * a1)) + (M4 99 (Int32.toNatClampNeg ((12 : Int32) + a1))))) a2) 99 (Int32.toNatClampNeg ((12 : Int32) + a1))) + 1))))))))) ∧ (((M4 99 (Int32.toNatClampNeg ((12 : Int32) + a1))) = 10) → (q_Ci X (d - 1) 91 [.ref 97, .int (-6)] M4 (fun r9 M8 => K r9 M8)))))) ∧ ((r5 = 0) → (q_Ci X (d - 1) 91 [.ref 97, .int (-2)] M4 (fun r11 M10 => K r11 M10)))))) ∧ ((r2 = 0) → (q_Ci X (d - 1) 91 [.ref 97, .int (-1)] M1 (fun r13 M12 => K r13 M12))))) : q_Ci X d 148 [.ref 97, .int a1, .int a2] M K := by
  show q_Ex X d 148 0 [some (.ref 97), some (.int a1), some (.int a2), none] [] M (q_ri K)
  refine q_aload_n (pc := 0) k148_0 rfl ?_
  refine q_iload_n (pc := 1) k148_1 rfl ?_
  refine q_invV (pc := 2) (As := [.int a1]) (st := []) k148_2 lm148_126 ov97 rfl rfl rfl (q_cat rfl) (Nat.le_of_ble_eq_true rfl) hd h ?_
  rintro v M1 ⟨r2, rfl, h⟩
  show q_Ex X d 148 (2 + 3) [some (.ref 97), some (.int a1), some (.int a2), none] [.int r2] M1 _
  refine q_if_ne (pc := 5) 12 k148_5 (by decide) (fun g3 => ?_) (fun g3 => ?_)
  · replace h := h.1 g3
    refine q_iload_n (pc := 12) k148_12 rfl ?_
    refine q_iconst (pc := 13) (v := 2) k148_13 (by decide) ?_
    refine q_invS (pc := 14) (As := [.int a2, .int 2]) (st := []) k148_14 lm148_68 os92 rfl rfl (q_cat rfl) (Nat.le_of_ble_eq_true rfl) hd h ?_
    rintro v M4 ⟨r5, rfl, h⟩
    show q_Ex X d 148 (14 + 3) [some (.ref 97), some (.int a1), some (.int a2), none] [.int r5] M4 _
    refine q_if_ne (pc := 17) 25 k148_17 (by decide) (fun g6 => ?_) (fun g6 => ?_)
    · replace h := h.1 g6
      refine q_aload_n (pc := 25) k148_25 rfl ?_
      refine q_getR (pc := 26) k148_26 fg148_13 rfl rfl ?_
      refine q_bipush (pc := 29) (v := 12) k148_29 (by decide) ?_
      refine q_iload_n (pc := 31) k148_31 rfl ?_
      refine q_iadd (pc := 32) k148_32 ?_
      refine q_ialdv (pc := 33) (v := M4 99 (Int32.toNatClampNeg ((12 : Int32) + a1))) k148_33 rfl h.1 rfl ?_
      replace h := h.2
      refine q_bipush (pc := 34) (v := 10) k148_34 (by decide) ?_
      refine q_icmp_ne (pc := 36) 44 k148_36 (by decide) (fun g7 => ?_) (fun g7 => ?_)
      · replace h := h.1 g7
        refine q_iconst (pc := 44) (v := 0) k148_44 (by decide) ?_
        refine q_istore_n (pc := 45) [some (.ref 97), some (.int a1), some (.int a2), some (.int 0)] k148_45 rfl (by decide) rfl ?_
        refine q_iload_n (pc := 46) k148_46 rfl ?_
        refine q_if_eq (pc := 47) 56 k148_47 (by decide) (fun _ => ?_) (fun g => absurd g (by decide))
        refine q_aload_n (pc := 56) k148_56 rfl ?_
        refine q_getR (pc := 57) k148_57 fg148_13 rfl rfl ?_
        refine q_bipush (pc := 60) (v := 15) k148_60 (by decide) ?_
        refine q_bipush (pc := 62) (v := 10) k148_62 (by decide) ?_
        refine q_iload_n (pc := 64) k148_64 rfl ?_
        refine q_imul (pc := 65) k148_65 ?_
        refine q_iadd (pc := 66) k148_66 ?_
        refine q_aload_n (pc := 67) k148_67 rfl ?_
        refine q_getR (pc := 68) k148_68 fg148_13 rfl rfl ?_
        refine q_bipush (pc := 71) (v := 12) k148_71 (by decide) ?_
        refine q_iload_n (pc := 73) k148_73 rfl ?_
        refine q_iadd (pc := 74) k148_74 ?_
        refine q_ialdv (pc := 75) (v := M4 99 (Int32.toNatClampNeg ((12 : Int32) + a1))) k148_75 rfl h.1 rfl ?_
        replace h := h.2
        refine q_iadd (pc := 76) k148_76 ?_
        refine q_iload_n (pc := 77) k148_77 rfl ?_
        refine q_iastv (pc := 78) (k := (Int32.toNatClampNeg (((15 : Int32) + ((10 : Int32) * a1)) + (M4 99 (Int32.toNatClampNeg ((12 : Int32) + a1)))))) k148_78 rfl h.1 rfl ?_
        replace h := h.2
        refine q_aload_n (pc := 79) k148_79 rfl ?_
        refine q_getR (pc := 80) k148_80 fg148_13 rfl rfl ?_
        refine q_bipush (pc := 83) (v := 12) k148_83 (by decide) ?_
        refine q_iload_n (pc := 85) k148_85 rfl ?_
        refine q_iadd (pc := 86) k148_86 ?_
        refine q_dup2 (pc := 87) k148_87 rfl rfl ?_
        refine q_ialdv (pc := 88) (v := (q_set M4 99 (Int32.toNatClampNeg (((15 : Int32) + ((10 : Int32) * a1)) + (M4 99 (Int32.toNatClampNeg ((12 : Int32) + a1))))) a2) 99 (Int32.toNatClampNeg ((12 : Int32) + a1))) k148_88 rfl h.1 rfl ?_
        replace h := h.2
        refine q_iconst (pc := 89) (v := 1) k148_89 (by decide) ?_
        refine q_iadd (pc := 90) k148_90 ?_
        refine q_iastv (pc := 91) (k := (Int32.toNatClampNeg ((12 : Int32) + a1))) k148_91 rfl h.1 rfl ?_
        replace h := h.2
        refine q_aload_n (pc := 92) k148_92 rfl ?_
        refine q_getR (pc := 93) k148_93 fg148_13 rfl rfl ?_
        refine q_bipush (pc := 96) (v := 12) k148_96 (by decide) ?_
        refine q_iload_n (pc := 98) k148_98 rfl ?_
        refine q_iadd (pc := 99) k148_99 ?_
        refine q_ialdv (pc := 100) (v := (q_set (q_set M4 99 (Int32.toNatClampNeg (((15 : Int32) + ((10 : Int32) * a1)) + (M4 99 (Int32.toNatClampNeg ((12 : Int32) + a1))))) a2) 99 (Int32.toNatClampNeg ((12 : Int32) + a1)) (((q_set M4 99 (Int32.toNatClampNeg (((15 : Int32) + ((10 : Int32) * a1)) + (M4 99 (Int32.toNatClampNeg ((12 : Int32) + a1))))) a2) 99 (Int32.toNatClampNeg ((12 : Int32) + a1))) + 1)) 99 (Int32.toNatClampNeg ((12 : Int32) + a1))) k148_100 rfl h.1 rfl ?_
        replace h := h.2
        exact q_ireturn (pc := 101) k148_101 rfl ⟨_, rfl, h⟩
      · replace h := h.2 g7
        refine q_bipush (pc := 39) (v := (-6)) k148_39 (by decide) ?_
        refine q_goto (pc := 41) 45 k148_41 (by decide) ?_
        refine q_istore_n (pc := 45) [some (.ref 97), some (.int a1), some (.int a2), some (.int (-6))] k148_45 rfl (by decide) rfl ?_
        refine q_iload_n (pc := 46) k148_46 rfl ?_
        refine q_if_eq (pc := 47) 56 k148_47 (by decide) (fun g => absurd g (by decide)) (fun _ => ?_)
        refine q_aload_n (pc := 50) k148_50 rfl ?_
        refine q_iload_n (pc := 51) k148_51 rfl ?_
        refine q_invV (pc := 52) (As := [.int (-6)]) (st := []) k148_52 lm148_80 ov91 rfl rfl rfl (q_cat rfl) (Nat.le_of_ble_eq_true rfl) hd h ?_
        rintro v M8 ⟨r9, rfl, h⟩
        show q_Ex X d 148 (52 + 3) [some (.ref 97), some (.int a1), some (.int a2), some (.int (-6))] [.int r9] M8 _
        exact q_ireturn (pc := 55) k148_55 rfl ⟨_, rfl, h⟩
    · replace h := h.2 g6
      refine q_bipush (pc := 20) (v := (-2)) k148_20 (by decide) ?_
      refine q_goto (pc := 22) 45 k148_22 (by decide) ?_
      refine q_istore_n (pc := 45) [some (.ref 97), some (.int a1), some (.int a2), some (.int (-2))] k148_45 rfl (by decide) rfl ?_
      refine q_iload_n (pc := 46) k148_46 rfl ?_
      refine q_if_eq (pc := 47) 56 k148_47 (by decide) (fun g => absurd g (by decide)) (fun _ => ?_)
      refine q_aload_n (pc := 50) k148_50 rfl ?_
      refine q_iload_n (pc := 51) k148_51 rfl ?_
      refine q_invV (pc := 52) (As := [.int (-2)]) (st := []) k148_52 lm148_80 ov91 rfl rfl rfl (q_cat rfl) (Nat.le_of_ble_eq_true rfl) hd h ?_
      rintro v M10 ⟨r11, rfl, h⟩
      show q_Ex X d 148 (52 + 3) [some (.ref 97), some (.int a1), some (.int a2), some (.int (-2))] [.int r11] M10 _
      exact q_ireturn (pc := 55) k148_55 rfl ⟨_, rfl, h⟩
  · replace h := h.2 g3
    refine q_iconst (pc := 8) (v := (-1)) k148_8 (by decide) ?_
    refine q_goto (pc := 9) 45 k148_9 (by decide) ?_
    refine q_istore_n (pc := 45) [some (.ref 97), some (.int a1), some (.int a2), some (.int (-1))] k148_45 rfl (by decide) rfl ?_
    refine q_iload_n (pc := 46) k148_46 rfl ?_
    refine q_if_eq (pc := 47) 56 k148_47 (by decide) (fun g => absurd g (by decide)) (fun _ => ?_)
    refine q_aload_n (pc := 50) k148_50 rfl ?_
    refine q_iload_n (pc := 51) k148_51 rfl ?_
    refine q_invV (pc := 52) (As := [.int (-1)]) (st := []) k148_52 lm148_80 ov91 rfl rfl rfl (q_cat rfl) (Nat.le_of_ble_eq_true rfl) hd h ?_
    rintro v M12 ⟨r13, rfl, h⟩
    show q_Ex X d 148 (52 + 3) [some (.ref 97), some (.int a1), some (.int a2), some (.int (-1))] [.int r13] M12 _
    exact q_ireturn (pc := 55) k148_55 rfl ⟨_, rfl, h⟩
set_option maxRecDepth 20000 in
theorem vc149 {X : Nat × (Nat → Int32)} {d : Nat} (hd : 0 < d) {M : q_M} {a1 : Int32} {K : Int32 → q_M → Prop} (h : q_Ci X (d - 1) 110 [.ref 97, .int 2, .int a1] M (fun r2 M1 => q_Ex X d 149 14 [some (.ref 97), some (.int a1), some (.int r2), some (.int ((1 : Int32) <<< (r2 &&& 31))), some (.int 0)] [] M1 (q_ri K))) : q_Ci X d 149 [.ref 97, .int a1] M K := by
  show q_Ex X d 149 0 [some (.ref 97), some (.int a1), none, none, none] [] M (q_ri K)
  refine q_aload_n (pc := 0) k149_0 rfl ?_
  refine q_iconst (pc := 1) (v := 2) k149_1 (by decide) ?_
  refine q_iload_n (pc := 2) k149_2 rfl ?_
  refine q_invV (pc := 3) (As := [.int 2, .int a1]) (st := []) k149_3 lm149_120 ov110 rfl rfl rfl (q_cat rfl) (Nat.le_of_ble_eq_true rfl) hd h ?_
  rintro v M1 ⟨r2, rfl, h⟩
  show q_Ex X d 149 (3 + 3) [some (.ref 97), some (.int a1), none, none, none] [.int r2] M1 _
  refine q_istore_n (pc := 6) [some (.ref 97), some (.int a1), some (.int r2), none, none] k149_6 rfl (by decide) rfl ?_
  refine q_iconst (pc := 7) (v := 1) k149_7 (by decide) ?_
  refine q_iload_n (pc := 8) k149_8 rfl ?_
  refine q_ishl (pc := 9) k149_9 ?_
  refine q_istore_n (pc := 10) [some (.ref 97), some (.int a1), some (.int r2), some (.int ((1 : Int32) <<< (r2 &&& 31))), none] k149_10 rfl (by decide) rfl ?_
  refine q_iconst (pc := 11) (v := 0) k149_11 (by decide) ?_
  refine q_istore (pc := 12) [some (.ref 97), some (.int a1), some (.int r2), some (.int ((1 : Int32) <<< (r2 &&& 31))), some (.int 0)] k149_12 rfl (by decide) rfl ?_
  exact h
set_option maxRecDepth 20000 in
theorem vc149_p14 {X : Nat × (Nat → Int32)} {d : Nat} (hd : 0 < d) {M : q_M} {a1 a2 a3 a4 : Int32} {K : Int32 → q_M → Prop} (h : vp_in ((12 : Int32) + a1) 135 ∧ ((((M 99 (Int32.toNatClampNeg ((12 : Int32) + a1))) ≤ a4) → (vp_in a1 3 ∧ (K (-9) (q_set (q_set M 115 (Int32.toNatClampNeg a1) a2) 97 27 a3)))) ∧ ((¬ (M 99 (Int32.toNatClampNeg ((12 : Int32) + a1))) ≤ a4) → (vp_in (((15 : Int32) + ((10 : Int32) * a1)) + a4) 135 ∧ (q_Ci X (d - 1) 111 [.ref 97, .int a2, .int (M 99 (Int32.toNatClampNeg (((15 : Int32) + ((10 : Int32) * a1)) + a4)))] M (fun r3 M2 => ((0 ≤ r3) → (q_Ex X d 149 14 [some (.ref 97), some (.int a1), some (.int r3), some (.int (a3 ||| ((1 : Int32) <<< (r3 &&& 31)))), some (.int (a4 + 1))] [] M2 (q_ri K))) ∧ ((¬ 0 ≤ r3) → (K a4 M2)))))))) : q_Ex X d 149 14 [some (.ref 97), some (.int a1), some (.int a2), some (.int a3), some (.int a4)] [] M (q_ri K) := by
  refine q_iload (pc := 14) k149_14 rfl ?_
  refine q_aload_n (pc := 16) k149_16 rfl ?_
  refine q_getR (pc := 17) k149_17 fg149_13 rfl rfl ?_
  refine q_bipush (pc := 20) (v := 12) k149_20 (by decide) ?_
  refine q_iload_n (pc := 22) k149_22 rfl ?_
  refine q_iadd (pc := 23) k149_23 ?_
  refine q_ialdv (pc := 24) (v := M 99 (Int32.toNatClampNeg ((12 : Int32) + a1))) k149_24 rfl h.1 rfl ?_
  replace h := h.2
  refine q_icmp_ge (pc := 25) 68 k149_25 (by decide) (fun g1 => ?_) (fun g1 => ?_)
  · replace h := h.1 g1
    refine q_aload_n (pc := 68) k149_68 rfl ?_
    refine q_getR (pc := 69) k149_69 fg149_61 rfl rfl ?_
    refine q_iload_n (pc := 72) k149_72 rfl ?_
    refine q_iload_n (pc := 73) k149_73 rfl ?_
    refine q_iastv (pc := 74) (k := (Int32.toNatClampNeg a1)) k149_74 rfl h.1 rfl ?_
    replace h := h.2
    refine q_aload_n (pc := 75) k149_75 rfl ?_
    refine q_iload_n (pc := 76) k149_76 rfl ?_
    refine q_putI (pc := 77) k149_77 fp149_209 rfl rfl ?_
    refine q_bipush (pc := 80) (v := (-9)) k149_80 (by decide) ?_
    exact q_ireturn (pc := 82) k149_82 rfl ⟨_, rfl, h⟩
  · replace h := h.2 g1
    refine q_aload_n (pc := 28) k149_28 rfl ?_
    refine q_iload_n (pc := 29) k149_29 rfl ?_
    refine q_aload_n (pc := 30) k149_30 rfl ?_
    refine q_getR (pc := 31) k149_31 fg149_13 rfl rfl ?_
    refine q_bipush (pc := 34) (v := 15) k149_34 (by decide) ?_
    refine q_bipush (pc := 36) (v := 10) k149_36 (by decide) ?_
    refine q_iload_n (pc := 38) k149_38 rfl ?_
    refine q_imul (pc := 39) k149_39 ?_
    refine q_iadd (pc := 40) k149_40 ?_
    refine q_iload (pc := 41) k149_41 rfl ?_
    refine q_iadd (pc := 43) k149_43 ?_
    refine q_ialdv (pc := 44) (v := M 99 (Int32.toNatClampNeg (((15 : Int32) + ((10 : Int32) * a1)) + a4))) k149_44 rfl h.1 rfl ?_
    replace h := h.2
    refine q_invV (pc := 45) (As := [.int a2, .int (M 99 (Int32.toNatClampNeg (((15 : Int32) + ((10 : Int32) * a1)) + a4)))]) (st := []) k149_45 lm149_112 ov111 rfl rfl rfl (q_cat rfl) (Nat.le_of_ble_eq_true rfl) hd h ?_
    rintro v M2 ⟨r3, rfl, h⟩
    show q_Ex X d 149 (45 + 3) [some (.ref 97), some (.int a1), some (.int a2), some (.int a3), some (.int a4)] [.int r3] M2 _
    refine q_istore_n (pc := 48) [some (.ref 97), some (.int a1), some (.int r3), some (.int a3), some (.int a4)] k149_48 rfl (by decide) rfl ?_
    refine q_iload_n (pc := 49) k149_49 rfl ?_
    refine q_if_ge (pc := 50) 56 k149_50 (by decide) (fun g4 => ?_) (fun g4 => ?_)
    · replace h := h.1 g4
      refine q_iload_n (pc := 56) k149_56 rfl ?_
      refine q_iconst (pc := 57) (v := 1) k149_57 (by decide) ?_
      refine q_iload_n (pc := 58) k149_58 rfl ?_
      refine q_ishl (pc := 59) k149_59 ?_
      refine q_ior (pc := 60) k149_60 ?_
      refine q_istore_n (pc := 61) [some (.ref 97), some (.int a1), some (.int r3), some (.int (a3 ||| ((1 : Int32) <<< (r3 &&& 31)))), some (.int a4)] k149_61 rfl (by decide) rfl ?_
      refine q_iinc (pc := 62) (v := a4 + 1) [some (.ref 97), some (.int a1), some (.int r3), some (.int (a3 ||| ((1 : Int32) <<< (r3 &&& 31)))), some (.int (a4 + 1))] k149_62 rfl rfl rfl (by decide) rfl ?_
      refine q_goto (pc := 65) 14 k149_65 (by decide) ?_
      exact h
    · replace h := h.2 g4
      refine q_iload (pc := 53) k149_53 rfl ?_
      exact q_ireturn (pc := 55) k149_55 rfl ⟨_, rfl, h⟩
set_option maxRecDepth 20000 in
theorem vc150 {X : Nat × (Nat → Int32)} {d : Nat} (hd : 0 < d) {M : q_M} {K : Int32 → q_M → Prop} (h : q_Ci X (d - 1) 124 [.ref 97] M (fun r2 M1 => ((¬ r2 = 0) → (q_Ex X d 150 20 [some (.ref 97), some (.int 0), some (.int 0), some (.int 0), none, none] [] M1 (q_ri K))) ∧ ((r2 = 0) → (q_Ci X (d - 1) 91 [.ref 97, .int (-3)] M1 (fun r5 M4 => K r5 M4))))) : q_Ci X d 150 [.ref 97] M K := by
  show q_Ex X d 150 0 [some (.ref 97), none, none, none, none, none] [] M (q_ri K)
  refine q_aload_n (pc := 0) k150_0 rfl ?_
  refine q_invV (pc := 1) (As := []) (st := []) k150_1 lm150_173 ov124 rfl rfl rfl (q_cat rfl) (Nat.le_of_ble_eq_true rfl) hd h ?_
  rintro v M1 ⟨r2, rfl, h⟩
  show q_Ex X d 150 (1 + 3) [some (.ref 97), none, none, none, none, none] [.int r2] M1 _
  refine q_if_ne (pc := 4) 14 k150_4 (by decide) (fun g3 => ?_) (fun g3 => ?_)
  · replace h := h.1 g3
    refine q_iconst (pc := 14) (v := 0) k150_14 (by decide) ?_
    refine q_istore_n (pc := 15) [some (.ref 97), some (.int 0), none, none, none, none] k150_15 rfl (by decide) rfl ?_
    refine q_iconst (pc := 16) (v := 0) k150_16 (by decide) ?_
    refine q_istore_n (pc := 17) [some (.ref 97), some (.int 0), some (.int 0), none, none, none] k150_17 rfl (by decide) rfl ?_
    refine q_iconst (pc := 18) (v := 0) k150_18 (by decide) ?_
    refine q_istore_n (pc := 19) [some (.ref 97), some (.int 0), some (.int 0), some (.int 0), none, none] k150_19 rfl (by decide) rfl ?_
    exact h
  · replace h := h.2 g3
    refine q_aload_n (pc := 7) k150_7 rfl ?_
    refine q_bipush (pc := 8) (v := (-3)) k150_8 (by decide) ?_
    refine q_invV (pc := 10) (As := [.int (-3)]) (st := []) k150_10 lm150_80 ov91 rfl rfl rfl (q_cat rfl) (Nat.le_of_ble_eq_true rfl) hd h ?_
    rintro v M4 ⟨r5, rfl, h⟩
    show q_Ex X d 150 (10 + 3) [some (.ref 97), none, none, none, none, none] [.int r5] M4 _
    exact q_ireturn (pc := 13) k150_13 rfl ⟨_, rfl, h⟩
set_option maxRecDepth 20000 in
theorem vc150_p20 {X : Nat × (Nat → Int32)} {d : Nat} (hd : 0 < d) {M : q_M} {a1 a2 a3 : Int32} {K : Int32 → q_M → Prop} (h : (((M 99 2) ≤ a3) → (q_Ex X d 150 78 [some (.ref 97), none, some (.int a2), some (.int 0), none, none] [] M (q_ri K))) ∧ ((¬ (M 99 2) ≤ a3) → (q_Ci X (d - 1) 149 [.ref 97, .int a3] M (fun r3 M2 => ((r3 < 0) → (q_Ex X d 150 20 [some (.ref 97), some (.int (a1 ||| (M2 97 27))), some (.int (a2 ||| (a1 &&& (M2 97 27)))), some (.int (a3 + 1)), none, none] [] M2 (q_ri K))) ∧ ((¬ r3 < 0) → (K (((1000 : Int32) + ((20 : Int32) * a3)) + r3) M2)))))) : q_Ex X d 150 20 [some (.ref 97), some (.int a1), some (.int a2), some (.int a3), none, none] [] M (q_ri K) := by
  refine q_iload_n (pc := 20) k150_20 rfl ?_
  refine q_aload_n (pc := 21) k150_21 rfl ?_
  refine q_getR (pc := 22) k150_22 fg150_13 rfl rfl ?_
  refine q_iconst (pc := 25) (v := 2) k150_25 (by decide) ?_
  refine q_ialdv (pc := 26) (v := M 99 2) k150_26 rfl (q_vin (by decide)) rfl ?_
  refine q_icmp_ge (pc := 27) 76 k150_27 (by decide) (fun g1 => ?_) (fun g1 => ?_)
  · replace h := h.1 g1
    refine q_iconst (pc := 76) (v := 0) k150_76 (by decide) ?_
    refine q_istore_n (pc := 77) [some (.ref 97), some (.int a1), some (.int a2), some (.int 0), none, none] k150_77 rfl (by decide) rfl ?_
    exact q_forget [some (.ref 97), none, some (.int a2), some (.int 0), none, none] (q_subOk (And.intro rfl (And.intro rfl (And.intro rfl (trivial))))) h
  · replace h := h.2 g1
    refine q_aload_n (pc := 30) k150_30 rfl ?_
    refine q_iload_n (pc := 31) k150_31 rfl ?_
    refine q_invV (pc := 32) (As := [.int a3]) (st := []) k150_32 lm150_212 ov149 rfl rfl rfl (q_cat rfl) (Nat.le_of_ble_eq_true rfl) hd h ?_
    rintro v M2 ⟨r3, rfl, h⟩
    show q_Ex X d 150 (32 + 3) [some (.ref 97), some (.int a1), some (.int a2), some (.int a3), none, none] [.int r3] M2 _
    refine q_istore (pc := 35) [some (.ref 97), some (.int a1), some (.int a2), some (.int a3), some (.int r3), none] k150_35 rfl (by decide) rfl ?_
    refine q_iload (pc := 37) k150_37 rfl ?_
    refine q_if_lt (pc := 39) 54 k150_39 (by decide) (fun g4 => ?_) (fun g4 => ?_)
    · replace h := h.1 g4
      refine q_iload_n (pc := 54) k150_54 rfl ?_
      refine q_iload_n (pc := 55) k150_55 rfl ?_
      refine q_aload_n (pc := 56) k150_56 rfl ?_
      refine q_getIv (pc := 57) (v := M2 97 27) k150_57 fg150_209 rfl rfl rfl ?_
      refine q_iand (pc := 60) k150_60 ?_
      refine q_ior (pc := 61) k150_61 ?_
      refine q_istore_n (pc := 62) [some (.ref 97), some (.int a1), some (.int (a2 ||| (a1 &&& (M2 97 27)))), some (.int a3), some (.int r3), none] k150_62 rfl (by decide) rfl ?_
      refine q_iload_n (pc := 63) k150_63 rfl ?_
      refine q_aload_n (pc := 64) k150_64 rfl ?_
      refine q_getIv (pc := 65) (v := M2 97 27) k150_65 fg150_209 rfl rfl rfl ?_
      refine q_ior (pc := 68) k150_68 ?_
      refine q_istore_n (pc := 69) [some (.ref 97), some (.int (a1 ||| (M2 97 27))), some (.int (a2 ||| (a1 &&& (M2 97 27)))), some (.int a3), some (.int r3), none] k150_69 rfl (by decide) rfl ?_
      refine q_iinc (pc := 70) (v := a3 + 1) [some (.ref 97), some (.int (a1 ||| (M2 97 27))), some (.int (a2 ||| (a1 &&& (M2 97 27)))), some (.int (a3 + 1)), some (.int r3), none] k150_70 rfl rfl rfl (by decide) rfl ?_
      refine q_goto (pc := 73) 20 k150_73 (by decide) ?_
      exact q_forget [some (.ref 97), some (.int (a1 ||| (M2 97 27))), some (.int (a2 ||| (a1 &&& (M2 97 27)))), some (.int (a3 + 1)), none, none] (q_subOk (And.intro rfl (And.intro rfl (And.intro rfl (And.intro rfl (trivial)))))) h
    · replace h := h.2 g4
      refine q_sipush (pc := 42) (v := 1000) k150_42 (by decide) ?_
      refine q_bipush (pc := 45) (v := 20) k150_45 (by decide) ?_
      refine q_iload_n (pc := 47) k150_47 rfl ?_
      refine q_imul (pc := 48) k150_48 ?_
      refine q_iadd (pc := 49) k150_49 ?_
      refine q_iload (pc := 50) k150_50 rfl ?_
      refine q_iadd (pc := 52) k150_52 ?_
      exact q_ireturn (pc := 53) k150_53 rfl ⟨_, rfl, h⟩
set_option maxRecDepth 20000 in
theorem vc150_p78 {X : Nat × (Nat → Int32)} {d : Nat} (hd : 0 < d) {M : q_M} {a2 a3 : Int32} {K : Int32 → q_M → Prop} (h : (((M 99 2) ≤ a3) → (((¬ a2 = 0) → (q_Ex X d 150 167 [none, none, some (.int a2), some (.int 0), none, none] [] M (q_ri K))) ∧ ((a2 = 0) → (K (-9) M)))) ∧ ((¬ (M 99 2) ≤ a3) → (q_Ci X (d - 1) 121 [.ref 97, .int (M 99 3), .int a3] M (fun r4 M3 => vp_in a3 3 ∧ (q_Ci X (d - 1) 98 [.ref 97, .int (M3 115 (Int32.toNatClampNeg a3))] M3 (fun r6 M5 => ((¬ r6 = 3) → (K ((100 : Int32) + a3) M5)) ∧ ((r6 = 3) → (((r4 < 0) → (q_Ex X d 150 78 [some (.ref 97), none, some (.int a2), some (.int (a3 + 1)), none, none] [] M5 (q_ri K))) ∧ ((¬ r4 < 0) → (vp_in a3 3 ∧ (q_Ci X (d - 1) 100 [.ref 97, .int (M5 115 (Int32.toNatClampNeg a3))] M5 (fun r10 M9 => ((¬ r10 = r4) → (K ((100 : Int32) + a3) M9)) ∧ ((r10 = r4) → (q_Ex X d 150 78 [some (.ref 97), none, some (.int a2), some (.int (a3 + 1)), none, none] [] M9 (q_ri K))))))))))))))) : q_Ex X d 150 78 [some (.ref 97), none, some (.int a2), some (.int a3), none, none] [] M (q_ri K) := by
  refine q_iload_n (pc := 78) k150_78 rfl ?_
  refine q_aload_n (pc := 79) k150_79 rfl ?_
  refine q_getR (pc := 80) k150_80 fg150_13 rfl rfl ?_
  refine q_iconst (pc := 83) (v := 2) k150_83 (by decide) ?_
  refine q_ialdv (pc := 84) (v := M 99 2) k150_84 rfl (q_vin (by decide)) rfl ?_
  refine q_icmp_ge (pc := 85) 158 k150_85 (by decide) (fun g1 => ?_) (fun g1 => ?_)
  · replace h := h.1 g1
    refine q_iload_n (pc := 158) k150_158 rfl ?_
    refine q_if_ne (pc := 159) 165 k150_159 (by decide) (fun g2 => ?_) (fun g2 => ?_)
    · replace h := h.1 g2
      refine q_iconst (pc := 165) (v := 0) k150_165 (by decide) ?_
      refine q_istore_n (pc := 166) [some (.ref 97), none, some (.int a2), some (.int 0), none, none] k150_166 rfl (by decide) rfl ?_
      exact q_forget [none, none, some (.int a2), some (.int 0), none, none] (q_subOk (And.intro rfl (And.intro rfl (trivial)))) h
    · replace h := h.2 g2
      refine q_bipush (pc := 162) (v := (-9)) k150_162 (by decide) ?_
      exact q_ireturn (pc := 164) k150_164 rfl ⟨_, rfl, h⟩
  · replace h := h.2 g1
    refine q_aload_n (pc := 88) k150_88 rfl ?_
    refine q_aload_n (pc := 89) k150_89 rfl ?_
    refine q_getR (pc := 90) k150_90 fg150_13 rfl rfl ?_
    refine q_iconst (pc := 93) (v := 3) k150_93 (by decide) ?_
    refine q_ialdv (pc := 94) (v := M 99 3) k150_94 rfl (q_vin (by decide)) rfl ?_
    refine q_iload_n (pc := 95) k150_95 rfl ?_
    refine q_invV (pc := 96) (As := [.int (M 99 3), .int a3]) (st := []) k150_96 lm150_164 ov121 rfl rfl rfl (q_cat rfl) (Nat.le_of_ble_eq_true rfl) hd h ?_
    rintro v M3 ⟨r4, rfl, h⟩
    show q_Ex X d 150 (96 + 3) [some (.ref 97), none, some (.int a2), some (.int a3), none, none] [.int r4] M3 _
    refine q_istore (pc := 99) [some (.ref 97), none, some (.int a2), some (.int a3), some (.int r4), none] k150_99 rfl (by decide) rfl ?_
    refine q_aload_n (pc := 101) k150_101 rfl ?_
    refine q_aload_n (pc := 102) k150_102 rfl ?_
    refine q_getR (pc := 103) k150_103 fg150_61 rfl rfl ?_
    refine q_iload_n (pc := 106) k150_106 rfl ?_
    refine q_ialdv (pc := 107) (v := M3 115 (Int32.toNatClampNeg a3)) k150_107 rfl h.1 rfl ?_
    replace h := h.2
    refine q_invV (pc := 108) (As := [.int (M3 115 (Int32.toNatClampNeg a3))]) (st := []) k150_108 lm150_106 ov98 rfl rfl rfl (q_cat rfl) (Nat.le_of_ble_eq_true rfl) hd h ?_
    rintro v M5 ⟨r6, rfl, h⟩
    show q_Ex X d 150 (108 + 3) [some (.ref 97), none, some (.int a2), some (.int a3), some (.int r4), none] [.int r6] M5 _
    refine q_iconst (pc := 111) (v := 3) k150_111 (by decide) ?_
    refine q_icmp_ne (pc := 112) 139 k150_112 (by decide) (fun g7 => ?_) (fun g7 => ?_)
    · replace h := h.1 g7
      refine q_iconst (pc := 139) (v := 0) k150_139 (by decide) ?_
      refine q_istore (pc := 140) [some (.ref 97), none, some (.int a2), some (.int a3), some (.int r4), some (.int 0)] k150_140 rfl (by decide) rfl ?_
      refine q_iload (pc := 142) k150_142 rfl ?_
      refine q_if_ne (pc := 144) 152 k150_144 (by decide) (fun g => absurd g (by decide)) (fun _ => ?_)
      refine q_bipush (pc := 147) (v := 100) k150_147 (by decide) ?_
      refine q_iload_n (pc := 149) k150_149 rfl ?_
      refine q_iadd (pc := 150) k150_150 ?_
      exact q_ireturn (pc := 151) k150_151 rfl ⟨_, rfl, h⟩
    · replace h := h.2 g7
      refine q_iload (pc := 115) k150_115 rfl ?_
      refine q_if_lt (pc := 117) 135 k150_117 (by decide) (fun g8 => ?_) (fun g8 => ?_)
      · replace h := h.1 g8
        refine q_iconst (pc := 135) (v := 1) k150_135 (by decide) ?_
        refine q_goto (pc := 136) 140 k150_136 (by decide) ?_
        refine q_istore (pc := 140) [some (.ref 97), none, some (.int a2), some (.int a3), some (.int r4), some (.int 1)] k150_140 rfl (by decide) rfl ?_
        refine q_iload (pc := 142) k150_142 rfl ?_
        refine q_if_ne (pc := 144) 152 k150_144 (by decide) (fun _ => ?_) (fun g => absurd g (by decide))
        refine q_iinc (pc := 152) (v := a3 + 1) [some (.ref 97), none, some (.int a2), some (.int (a3 + 1)), some (.int r4), some (.int 1)] k150_152 rfl rfl rfl (by decide) rfl ?_
        refine q_goto (pc := 155) 78 k150_155 (by decide) ?_
        exact q_forget [some (.ref 97), none, some (.int a2), some (.int (a3 + 1)), none, none] (q_subOk (And.intro rfl (And.intro rfl (And.intro rfl (trivial))))) h
      · replace h := h.2 g8
        refine q_aload_n (pc := 120) k150_120 rfl ?_
        refine q_aload_n (pc := 121) k150_121 rfl ?_
        refine q_getR (pc := 122) k150_122 fg150_61 rfl rfl ?_
        refine q_iload_n (pc := 125) k150_125 rfl ?_
        refine q_ialdv (pc := 126) (v := M5 115 (Int32.toNatClampNeg a3)) k150_126 rfl h.1 rfl ?_
        replace h := h.2
        refine q_invV (pc := 127) (As := [.int (M5 115 (Int32.toNatClampNeg a3))]) (st := []) k150_127 lm150_109 ov100 rfl rfl rfl (q_cat rfl) (Nat.le_of_ble_eq_true rfl) hd h ?_
        rintro v M9 ⟨r10, rfl, h⟩
        show q_Ex X d 150 (127 + 3) [some (.ref 97), none, some (.int a2), some (.int a3), some (.int r4), none] [.int r10] M9 _
        refine q_iload (pc := 130) k150_130 rfl ?_
        refine q_icmp_ne (pc := 132) 139 k150_132 (by decide) (fun g11 => ?_) (fun g11 => ?_)
        · replace h := h.1 g11
          refine q_iconst (pc := 139) (v := 0) k150_139 (by decide) ?_
          refine q_istore (pc := 140) [some (.ref 97), none, some (.int a2), some (.int a3), some (.int r4), some (.int 0)] k150_140 rfl (by decide) rfl ?_
          refine q_iload (pc := 142) k150_142 rfl ?_
          refine q_if_ne (pc := 144) 152 k150_144 (by decide) (fun g => absurd g (by decide)) (fun _ => ?_)
          refine q_bipush (pc := 147) (v := 100) k150_147 (by decide) ?_
          refine q_iload_n (pc := 149) k150_149 rfl ?_
          refine q_iadd (pc := 150) k150_150 ?_
          exact q_ireturn (pc := 151) k150_151 rfl ⟨_, rfl, h⟩
        · replace h := h.2 g11
          refine q_iconst (pc := 135) (v := 1) k150_135 (by decide) ?_
          refine q_goto (pc := 136) 140 k150_136 (by decide) ?_
          refine q_istore (pc := 140) [some (.ref 97), none, some (.int a2), some (.int a3), some (.int r4), some (.int 1)] k150_140 rfl (by decide) rfl ?_
          refine q_iload (pc := 142) k150_142 rfl ?_
          refine q_if_ne (pc := 144) 152 k150_144 (by decide) (fun _ => ?_) (fun g => absurd g (by decide))
          refine q_iinc (pc := 152) (v := a3 + 1) [some (.ref 97), none, some (.int a2), some (.int (a3 + 1)), some (.int r4), some (.int 1)] k150_152 rfl rfl rfl (by decide) rfl ?_
          refine q_goto (pc := 155) 78 k150_155 (by decide) ?_
          exact q_forget [some (.ref 97), none, some (.int a2), some (.int (a3 + 1)), none, none] (q_subOk (And.intro rfl (And.intro rfl (And.intro rfl (trivial))))) h
set_option maxRecDepth 20000 in
theorem vc150_p167 {X : Nat × (Nat → Int32)} {d : Nat} {M : q_M} {a2 a3 : Int32} {K : Int32 → q_M → Prop} (h : ((¬ ((a2 >>> (a3 &&& 31)) &&& 1) = 0) → (K a3 M)) ∧ ((((a2 >>> (a3 &&& 31)) &&& 1) = 0) → (q_Ex X d 150 167 [none, none, some (.int a2), some (.int (a3 + 1)), none, none] [] M (q_ri K)))) : q_Ex X d 150 167 [none, none, some (.int a2), some (.int a3), none, none] [] M (q_ri K) := by
  refine q_iload_n (pc := 167) k150_167 rfl ?_
  refine q_iload_n (pc := 168) k150_168 rfl ?_
  refine q_ishr (pc := 169) k150_169 ?_
  refine q_iconst (pc := 170) (v := 1) k150_170 (by decide) ?_
  refine q_iand (pc := 171) k150_171 ?_
  refine q_if_ne (pc := 172) 181 k150_172 (by decide) (fun g1 => ?_) (fun g1 => ?_)
  · replace h := h.1 g1
    refine q_iload_n (pc := 181) k150_181 rfl ?_
    exact q_ireturn (pc := 182) k150_182 rfl ⟨_, rfl, h⟩
  · replace h := h.2 g1
    refine q_iinc (pc := 175) (v := a3 + 1) [none, none, some (.int a2), some (.int (a3 + 1)), none, none] k150_175 rfl rfl rfl (by decide) rfl ?_
    refine q_goto (pc := 178) 167 k150_178 (by decide) ?_
    exact h
