set_option maxRecDepth 20000 in
theorem vc54 {X : Nat × (Nat → Int32)} {d : Nat} (hd : 0 < d) {M : q_M} {K : Int32 → q_M → Prop} (h : q_Ci X (d - 1) 73 [.ref 0] M (fun r2 M1 => ((¬ r2 = 0) → (q_Cr X (d - 1) 74 [.ref 0] M1 (fun r5 M4 => r5 = 64 ∧ (q_Ci X (d - 1) 76 [.ref 0] M4 (fun r7 M6 => q_Ci X (d - 1) 36 [.ref 64, .int r7] M6 (fun r9 M8 => K r9 M8)))))) ∧ ((r2 = 0) → (q_Ci X (d - 1) 72 [.ref 0, .int (-3)] M1 (fun r11 M10 => K r11 M10))))) : q_Ci X d 54 [.ref 0] M K := by
  show q_Ex X d 54 0 [some (.ref 0)] [] M (q_ri K)
  refine q_aload_n (pc := 0) k54_0 rfl ?_
  refine q_invV (pc := 1) (As := []) (st := []) k54_1 lm54_137 ov73 rfl rfl rfl (q_cat rfl) (Nat.le_of_ble_eq_true rfl) hd h ?_
  rintro v M1 ⟨r2, rfl, h⟩
  show q_Ex X d 54 (1 + 3) [some (.ref 0)] [.int r2] M1 _
  refine q_if_ne (pc := 4) 14 k54_4 (by decide) (fun g3 => ?_) (fun g3 => ?_)
  · replace h := h.1 g3
    refine q_aload_n (pc := 14) k54_14 rfl ?_
    refine q_invV (pc := 15) (As := []) (st := []) k54_15 lm54_171 ov74 rfl rfl rfl (q_cat rfl) (Nat.le_of_ble_eq_true rfl) hd h ?_
    rintro v M4 ⟨r5, rfl, rfl, h⟩
    show q_Ex X d 54 (15 + 3) [some (.ref 0)] [.ref 64] M4 _
    refine q_aload_n (pc := 18) k54_18 rfl ?_
    refine q_invV (pc := 19) (As := []) (st := [.ref 64]) k54_19 lm54_178 ov76 rfl rfl rfl (q_cat rfl) (Nat.le_of_ble_eq_true rfl) hd h ?_
    rintro v M6 ⟨r7, rfl, h⟩
    show q_Ex X d 54 (19 + 3) [some (.ref 0)] [.int r7, .ref 64] M6 _
    refine q_invV (pc := 22) (As := [.int r7]) (st := []) k54_22 lm54_181 ov36 rfl rfl rfl (q_cat rfl) (Nat.le_of_ble_eq_true rfl) hd h ?_
    rintro v M8 ⟨r9, rfl, h⟩
    show q_Ex X d 54 (22 + 3) [some (.ref 0)] [.int r9] M8 _
    exact q_ireturn (pc := 25) k54_25 rfl ⟨_, rfl, h⟩
  · replace h := h.2 g3
    refine q_aload_n (pc := 7) k54_7 rfl ?_
    refine q_bipush (pc := 8) (v := (-3)) k54_8 (by decide) ?_
    refine q_invV (pc := 10) (As := [.int (-3)]) (st := []) k54_10 lm54_100 ov72 rfl rfl rfl (q_cat rfl) (Nat.le_of_ble_eq_true rfl) hd h ?_
    rintro v M10 ⟨r11, rfl, h⟩
    show q_Ex X d 54 (10 + 3) [some (.ref 0)] [.int r11] M10 _
    exact q_ireturn (pc := 13) k54_13 rfl ⟨_, rfl, h⟩
set_option maxRecDepth 20000 in
theorem vc55 {X : Nat × (Nat → Int32)} {d : Nat} (hd : 0 < d) {M : q_M} {a1 a2 : Int32} {K : Int32 → q_M → Prop} (h : q_Ci X (d - 1) 23 [.ref 11, .int a1] M (fun r2 M1 => ((¬ r2 = 0) → (((a2 < 0) → (q_Ci X (d - 1) 72 [.ref 0, .int (-2)] M1 (fun r6 M5 => K r6 M5))) ∧ ((¬ a2 < 0) → (((a2 ≤ 1) → (q_Ci X (d - 1) 78 [.ref 0, .int a1] M1 (fun r9 M8 => ((¬ r9 = 0) → (q_Ci X (d - 1) 77 [.ref 0] M8 (fun r12 M11 => q_Ci X (d - 1) 83 [.int r12, .int r9] M11 (fun r14 M13 => ((¬ a2 = 0) → (¬ r14 = 0 ∧ (K (r12 / r14) M13))) ∧ ((a2 = 0) → (¬ r14 = 0 ∧ (K (r9 / r14) M13))))))) ∧ ((r9 = 0) → (q_Ci X (d - 1) 83 [.int 1, .int r9] M8 (fun r17 M16 => ((¬ a2 = 0) → (¬ r17 = 0 ∧ (K (1 / r17) M16))) ∧ ((a2 = 0) → (¬ r17 = 0 ∧ (K (r9 / r17) M16))))))))) ∧ ((¬ a2 ≤ 1) → (q_Ci X (d - 1) 72 [.ref 0, .int (-2)] M1 (fun r20 M19 => K r20 M19))))))) ∧ ((r2 = 0) → (q_Ci X (d - 1) 72 [.ref 0, .int (-1)] M1 (fun r22 M21 => K r22 M21))))) : q_Ci X d 55 [.ref 0, .int a1, .int a2] M K := by
  show q_Ex X d 55 0 [some (.ref 0), some (.int a1), some (.int a2), none, none, none] [] M (q_ri K)
  refine q_aload_n (pc := 0) k55_0 rfl ?_
  refine q_getR (pc := 1) k55_1 fg55_26 rfl rfl ?_
  refine q_getR (pc := 4) k55_4 fg55_63 rfl rfl ?_
  refine q_iload_n (pc := 7) k55_7 rfl ?_
  refine q_invV (pc := 8) (As := [.int a1]) (st := []) k55_8 lm55_121 ov23 rfl rfl rfl (q_cat rfl) (Nat.le_of_ble_eq_true rfl) hd h ?_
  rintro v M1 ⟨r2, rfl, h⟩
  show q_Ex X d 55 (8 + 3) [some (.ref 0), some (.int a1), some (.int a2), none, none, none] [.int r2] M1 _
  refine q_if_ne (pc := 11) 20 k55_11 (by decide) (fun g3 => ?_) (fun g3 => ?_)
  · replace h := h.1 g3
    refine q_iload_n (pc := 20) k55_20 rfl ?_
    refine q_if_lt (pc := 21) 29 k55_21 (by decide) (fun g4 => ?_) (fun g4 => ?_)
    · replace h := h.1 g4
      refine q_aload_n (pc := 29) k55_29 rfl ?_
      refine q_bipush (pc := 30) (v := (-2)) k55_30 (by decide) ?_
      refine q_invV (pc := 32) (As := [.int (-2)]) (st := []) k55_32 lm55_100 ov72 rfl rfl rfl (q_cat rfl) (Nat.le_of_ble_eq_true rfl) hd h ?_
      rintro v M5 ⟨r6, rfl, h⟩
      show q_Ex X d 55 (32 + 3) [some (.ref 0), some (.int a1), some (.int a2), none, none, none] [.int r6] M5 _
      exact q_ireturn (pc := 35) k55_35 rfl ⟨_, rfl, h⟩
    · replace h := h.2 g4
      refine q_iload_n (pc := 24) k55_24 rfl ?_
      refine q_iconst (pc := 25) (v := 1) k55_25 (by decide) ?_
      refine q_icmp_le (pc := 26) 36 k55_26 (by decide) (fun g7 => ?_) (fun g7 => ?_)
      · replace h := h.1 g7
        refine q_aload_n (pc := 36) k55_36 rfl ?_
        refine q_iload_n (pc := 37) k55_37 rfl ?_
        refine q_invV (pc := 38) (As := [.int a1]) (st := []) k55_38 lm55_184 ov78 rfl rfl rfl (q_cat rfl) (Nat.le_of_ble_eq_true rfl) hd h ?_
        rintro v M8 ⟨r9, rfl, h⟩
        show q_Ex X d 55 (38 + 3) [some (.ref 0), some (.int a1), some (.int a2), none, none, none] [.int r9] M8 _
        refine q_istore_n (pc := 41) [some (.ref 0), some (.int a1), some (.int a2), some (.int r9), none, none] k55_41 rfl (by decide) rfl ?_
        refine q_iload_n (pc := 42) k55_42 rfl ?_
        refine q_if_ne (pc := 43) 50 k55_43 (by decide) (fun g10 => ?_) (fun g10 => ?_)
        · replace h := h.1 g10
          refine q_aload_n (pc := 50) k55_50 rfl ?_
          refine q_invV (pc := 51) (As := []) (st := []) k55_51 lm55_157 ov77 rfl rfl rfl (q_cat rfl) (Nat.le_of_ble_eq_true rfl) hd h ?_
          rintro v M11 ⟨r12, rfl, h⟩
          show q_Ex X d 55 (51 + 3) [some (.ref 0), some (.int a1), some (.int a2), some (.int r9), none, none] [.int r12] M11 _
          refine q_istore (pc := 54) [some (.ref 0), some (.int a1), some (.int a2), some (.int r9), some (.int r12), none] k55_54 rfl (by decide) rfl ?_
          refine q_iload (pc := 56) k55_56 rfl ?_
          refine q_iload_n (pc := 58) k55_58 rfl ?_
          refine q_invS (pc := 59) (As := [.int r12, .int r9]) (st := []) k55_59 lm55_187 os83 rfl rfl (q_cat rfl) (Nat.le_of_ble_eq_true rfl) hd h ?_
          rintro v M13 ⟨r14, rfl, h⟩
          show q_Ex X d 55 (59 + 3) [some (.ref 0), some (.int a1), some (.int a2), some (.int r9), some (.int r12), none] [.int r14] M13 _
          refine q_istore (pc := 62) [some (.ref 0), some (.int a1), some (.int a2), some (.int r9), some (.int r12), some (.int r14)] k55_62 rfl (by decide) rfl ?_
          refine q_iload_n (pc := 64) k55_64 rfl ?_
          refine q_if_ne (pc := 65) 72 k55_65 (by decide) (fun g15 => ?_) (fun g15 => ?_)
          · replace h := h.1 g15
            refine q_iload (pc := 72) k55_72 rfl ?_
            refine q_iload (pc := 74) k55_74 rfl ?_
            refine q_idiv (pc := 76) k55_76 h.1 ?_
            replace h := h.2
            exact q_ireturn (pc := 77) k55_77 rfl ⟨_, rfl, h⟩
          · replace h := h.2 g15
            refine q_iload_n (pc := 68) k55_68 rfl ?_
            refine q_goto (pc := 69) 74 k55_69 (by decide) ?_
            refine q_iload (pc := 74) k55_74 rfl ?_
            refine q_idiv (pc := 76) k55_76 h.1 ?_
            replace h := h.2
            exact q_ireturn (pc := 77) k55_77 rfl ⟨_, rfl, h⟩
        · replace h := h.2 g10
          refine q_iconst (pc := 46) (v := 1) k55_46 (by decide) ?_
          refine q_goto (pc := 47) 54 k55_47 (by decide) ?_
          refine q_istore (pc := 54) [some (.ref 0), some (.int a1), some (.int a2), some (.int r9), some (.int 1), none] k55_54 rfl (by decide) rfl ?_
          refine q_iload (pc := 56) k55_56 rfl ?_
          refine q_iload_n (pc := 58) k55_58 rfl ?_
          refine q_invS (pc := 59) (As := [.int 1, .int r9]) (st := []) k55_59 lm55_187 os83 rfl rfl (q_cat rfl) (Nat.le_of_ble_eq_true rfl) hd h ?_
          rintro v M16 ⟨r17, rfl, h⟩
          show q_Ex X d 55 (59 + 3) [some (.ref 0), some (.int a1), some (.int a2), some (.int r9), some (.int 1), none] [.int r17] M16 _
          refine q_istore (pc := 62) [some (.ref 0), some (.int a1), some (.int a2), some (.int r9), some (.int 1), some (.int r17)] k55_62 rfl (by decide) rfl ?_
          refine q_iload_n (pc := 64) k55_64 rfl ?_
          refine q_if_ne (pc := 65) 72 k55_65 (by decide) (fun g18 => ?_) (fun g18 => ?_)
          · replace h := h.1 g18
            refine q_iload (pc := 72) k55_72 rfl ?_
            refine q_iload (pc := 74) k55_74 rfl ?_
            refine q_idiv (pc := 76) k55_76 h.1 ?_
            replace h := h.2
            exact q_ireturn (pc := 77) k55_77 rfl ⟨_, rfl, h⟩
          · replace h := h.2 g18
            refine q_iload_n (pc := 68) k55_68 rfl ?_
            refine q_goto (pc := 69) 74 k55_69 (by decide) ?_
            refine q_iload (pc := 74) k55_74 rfl ?_
            refine q_idiv (pc := 76) k55_76 h.1 ?_
            replace h := h.2
            exact q_ireturn (pc := 77) k55_77 rfl ⟨_, rfl, h⟩
      · replace h := h.2 g7
        refine q_aload_n (pc := 29) k55_29 rfl ?_
        refine q_bipush (pc := 30) (v := (-2)) k55_30 (by decide) ?_
        refine q_invV (pc := 32) (As := [.int (-2)]) (st := []) k55_32 lm55_100 ov72 rfl rfl rfl (q_cat rfl) (Nat.le_of_ble_eq_true rfl) hd h ?_
        rintro v M19 ⟨r20, rfl, h⟩
        show q_Ex X d 55 (32 + 3) [some (.ref 0), some (.int a1), some (.int a2), none, none, none] [.int r20] M19 _
        exact q_ireturn (pc := 35) k55_35 rfl ⟨_, rfl, h⟩
  · replace h := h.2 g3
    refine q_aload_n (pc := 14) k55_14 rfl ?_
    refine q_iconst (pc := 15) (v := (-1)) k55_15 (by decide) ?_
    refine q_invV (pc := 16) (As := [.int (-1)]) (st := []) k55_16 lm55_100 ov72 rfl rfl rfl (q_cat rfl) (Nat.le_of_ble_eq_true rfl) hd h ?_
    rintro v M21 ⟨r22, rfl, h⟩
    show q_Ex X d 55 (16 + 3) [some (.ref 0), some (.int a1), some (.int a2), none, none, none] [.int r22] M21 _
    exact q_ireturn (pc := 19) k55_19 rfl ⟨_, rfl, h⟩
set_option maxRecDepth 20000 in
theorem vc56 {X : Nat × (Nat → Int32)} {d : Nat} (hd : 0 < d) {M : q_M} {a1 a2 a3 : Int32} {K : Int32 → q_M → Prop} (h : q_Ci X (d - 1) 24 [.ref 11, .int a2] M (fun r2 M1 => ((¬ r2 = 0) → (((a1 < 0) → (q_Ci X (d - 1) 72 [.ref 0, .int (-4)] M1 (fun r6 M5 => K r6 M5))) ∧ ((¬ a1 < 0) → (((0 ≤ a3) → (q_Ci X (d - 1) 77 [.ref 0] M1 (fun r9 M8 => q_Ci X (d - 1) 80 [.ref 0, .int a1, .int r9, .int a2, .int a3] M8 (fun r11 M10 => K r11 M10)))) ∧ ((¬ 0 ≤ a3) → (q_Ci X (d - 1) 72 [.ref 0, .int (-4)] M1 (fun r13 M12 => K r13 M12))))))) ∧ ((r2 = 0) → (q_Ci X (d - 1) 72 [.ref 0, .int (-1)] M1 (fun r15 M14 => K r15 M14))))) : q_Ci X d 56 [.ref 0, .int a1, .int a2, .int a3] M K := by
  show q_Ex X d 56 0 [some (.ref 0), some (.int a1), some (.int a2), some (.int a3)] [] M (q_ri K)
  refine q_aload_n (pc := 0) k56_0 rfl ?_
  refine q_getR (pc := 1) k56_1 fg56_26 rfl rfl ?_
  refine q_getR (pc := 4) k56_4 fg56_63 rfl rfl ?_
  refine q_iload_n (pc := 7) k56_7 rfl ?_
  refine q_invV (pc := 8) (As := [.int a2]) (st := []) k56_8 lm56_151 ov24 rfl rfl rfl (q_cat rfl) (Nat.le_of_ble_eq_true rfl) hd h ?_
  rintro v M1 ⟨r2, rfl, h⟩
  show q_Ex X d 56 (8 + 3) [some (.ref 0), some (.int a1), some (.int a2), some (.int a3)] [.int r2] M1 _
  refine q_if_ne (pc := 11) 20 k56_11 (by decide) (fun g3 => ?_) (fun g3 => ?_)
  · replace h := h.1 g3
    refine q_iload_n (pc := 20) k56_20 rfl ?_
    refine q_if_lt (pc := 21) 28 k56_21 (by decide) (fun g4 => ?_) (fun g4 => ?_)
    · replace h := h.1 g4
      refine q_aload_n (pc := 28) k56_28 rfl ?_
      refine q_bipush (pc := 29) (v := (-4)) k56_29 (by decide) ?_
      refine q_invV (pc := 31) (As := [.int (-4)]) (st := []) k56_31 lm56_100 ov72 rfl rfl rfl (q_cat rfl) (Nat.le_of_ble_eq_true rfl) hd h ?_
      rintro v M5 ⟨r6, rfl, h⟩
      show q_Ex X d 56 (31 + 3) [some (.ref 0), some (.int a1), some (.int a2), some (.int a3)] [.int r6] M5 _
      exact q_ireturn (pc := 34) k56_34 rfl ⟨_, rfl, h⟩
    · replace h := h.2 g4
      refine q_iload_n (pc := 24) k56_24 rfl ?_
      refine q_if_ge (pc := 25) 35 k56_25 (by decide) (fun g7 => ?_) (fun g7 => ?_)
      · replace h := h.1 g7
        refine q_aload_n (pc := 35) k56_35 rfl ?_
        refine q_iload_n (pc := 36) k56_36 rfl ?_
        refine q_aload_n (pc := 37) k56_37 rfl ?_
        refine q_invV (pc := 38) (As := []) (st := [.int a1, .ref 0]) k56_38 lm56_157 ov77 rfl rfl rfl (q_cat rfl) (Nat.le_of_ble_eq_true rfl) hd h ?_
        rintro v M8 ⟨r9, rfl, h⟩
        show q_Ex X d 56 (38 + 3) [some (.ref 0), some (.int a1), some (.int a2), some (.int a3)] [.int r9, .int a1, .ref 0] M8 _
        refine q_iload_n (pc := 41) k56_41 rfl ?_
        refine q_iload_n (pc := 42) k56_42 rfl ?_
        refine q_invV (pc := 43) (As := [.int a1, .int r9, .int a2, .int a3]) (st := []) k56_43 lm56_190 ov80 rfl rfl rfl (q_cat rfl) (Nat.le_of_ble_eq_true rfl) hd h ?_
        rintro v M10 ⟨r11, rfl, h⟩
        show q_Ex X d 56 (43 + 3) [some (.ref 0), some (.int a1), some (.int a2), some (.int a3)] [.int r11] M10 _
        exact q_ireturn (pc := 46) k56_46 rfl ⟨_, rfl, h⟩
      · replace h := h.2 g7
        refine q_aload_n (pc := 28) k56_28 rfl ?_
        refine q_bipush (pc := 29) (v := (-4)) k56_29 (by decide) ?_
        refine q_invV (pc := 31) (As := [.int (-4)]) (st := []) k56_31 lm56_100 ov72 rfl rfl rfl (q_cat rfl) (Nat.le_of_ble_eq_true rfl) hd h ?_
        rintro v M12 ⟨r13, rfl, h⟩
        show q_Ex X d 56 (31 + 3) [some (.ref 0), some (.int a1), some (.int a2), some (.int a3)] [.int r13] M12 _
        exact q_ireturn (pc := 34) k56_34 rfl ⟨_, rfl, h⟩
  · replace h := h.2 g3
    refine q_aload_n (pc := 14) k56_14 rfl ?_
    refine q_iconst (pc := 15) (v := (-1)) k56_15 (by decide) ?_
    refine q_invV (pc := 16) (As := [.int (-1)]) (st := []) k56_16 lm56_100 ov72 rfl rfl rfl (q_cat rfl) (Nat.le_of_ble_eq_true rfl) hd h ?_
    rintro v M14 ⟨r15, rfl, h⟩
    show q_Ex X d 56 (16 + 3) [some (.ref 0), some (.int a1), some (.int a2), some (.int a3)] [.int r15] M14 _
    exact q_ireturn (pc := 19) k56_19 rfl ⟨_, rfl, h⟩
set_option maxRecDepth 20000 in
theorem vc57 {X : Nat × (Nat → Int32)} {d : Nat} (hd : 0 < d) {M : q_M} {a1 a2 a3 : Int32} {K : Int32 → q_M → Prop} (h : q_Ci X (d - 1) 24 [.ref 11, .int a2] M (fun r2 M1 => ((¬ r2 = 0) → (((0 ≤ a3) → (q_Ci X (d - 1) 77 [.ref 0] M1 (fun r6 M5 => ((1 ≤ r6) → (q_Ci X (d - 1) 82 [.int r6, .int a1] M5 (fun r9 M8 => q_Ci X (d - 1) 80 [.ref 0, .int r9, .int r6, .int a2, .int a3] M8 (fun r11 M10 => K r11 M10)))) ∧ ((¬ 1 ≤ r6) → (K (-9) M5))))) ∧ ((¬ 0 ≤ a3) → (q_Ci X (d - 1) 72 [.ref 0, .int (-4)] M1 (fun r13 M12 => K r13 M12))))) ∧ ((r2 = 0) → (q_Ci X (d - 1) 72 [.ref 0, .int (-1)] M1 (fun r15 M14 => K r15 M14))))) : q_Ci X d 57 [.ref 0, .int a1, .int a2, .int a3] M K := by
  show q_Ex X d 57 0 [some (.ref 0), some (.int a1), some (.int a2), some (.int a3), none] [] M (q_ri K)
  refine q_aload_n (pc := 0) k57_0 rfl ?_
  refine q_getR (pc := 1) k57_1 fg57_26 rfl rfl ?_
  refine q_getR (pc := 4) k57_4 fg57_63 rfl rfl ?_
  refine q_iload_n (pc := 7) k57_7 rfl ?_
  refine q_invV (pc := 8) (As := [.int a2]) (st := []) k57_8 lm57_151 ov24 rfl rfl rfl (q_cat rfl) (Nat.le_of_ble_eq_true rfl) hd h ?_
  rintro v M1 ⟨r2, rfl, h⟩
  show q_Ex X d 57 (8 + 3) [some (.ref 0), some (.int a1), some (.int a2), some (.int a3), none] [.int r2] M1 _
  refine q_if_ne (pc := 11) 20 k57_11 (by decide) (fun g3 => ?_) (fun g3 => ?_)
  · replace h := h.1 g3
    refine q_iload_n (pc := 20) k57_20 rfl ?_
    refine q_if_ge (pc := 21) 31 k57_21 (by decide) (fun g4 => ?_) (fun g4 => ?_)
    · replace h := h.1 g4
      refine q_aload_n (pc := 31) k57_31 rfl ?_
      refine q_invV (pc := 32) (As := []) (st := []) k57_32 lm57_157 ov77 rfl rfl rfl (q_cat rfl) (Nat.le_of_ble_eq_true rfl) hd h ?_
      rintro v M5 ⟨r6, rfl, h⟩
      show q_Ex X d 57 (32 + 3) [some (.ref 0), some (.int a1), some (.int a2), some (.int a3), none] [.int r6] M5 _
      refine q_istore (pc := 35) [some (.ref 0), some (.int a1), some (.int a2), some (.int a3), some (.int r6)] k57_35 rfl (by decide) rfl ?_
      refine q_iload (pc := 37) k57_37 rfl ?_
      refine q_iconst (pc := 39) (v := 1) k57_39 (by decide) ?_
      refine q_icmp_ge (pc := 40) 46 k57_40 (by decide) (fun g7 => ?_) (fun g7 => ?_)
      · replace h := h.1 g7
        refine q_aload_n (pc := 46) k57_46 rfl ?_
        refine q_iload (pc := 47) k57_47 rfl ?_
        refine q_iload_n (pc := 49) k57_49 rfl ?_
        refine q_invS (pc := 50) (As := [.int r6, .int a1]) (st := [.ref 0]) k57_50 lm57_194 os82 rfl rfl (q_cat rfl) (Nat.le_of_ble_eq_true rfl) hd h ?_
        rintro v M8 ⟨r9, rfl, h⟩
        show q_Ex X d 57 (50 + 3) [some (.ref 0), some (.int a1), some (.int a2), some (.int a3), some (.int r6)] [.int r9, .ref 0] M8 _
        refine q_iload (pc := 53) k57_53 rfl ?_
        refine q_iload_n (pc := 55) k57_55 rfl ?_
        refine q_iload_n (pc := 56) k57_56 rfl ?_
        refine q_invV (pc := 57) (As := [.int r9, .int r6, .int a2, .int a3]) (st := []) k57_57 lm57_190 ov80 rfl rfl rfl (q_cat rfl) (Nat.le_of_ble_eq_true rfl) hd h ?_
        rintro v M10 ⟨r11, rfl, h⟩
        show q_Ex X d 57 (57 + 3) [some (.ref 0), some (.int a1), some (.int a2), some (.int a3), some (.int r6)] [.int r11] M10 _
        exact q_ireturn (pc := 60) k57_60 rfl ⟨_, rfl, h⟩
      · replace h := h.2 g7
        refine q_bipush (pc := 43) (v := (-9)) k57_43 (by decide) ?_
        exact q_ireturn (pc := 45) k57_45 rfl ⟨_, rfl, h⟩
    · replace h := h.2 g4
      refine q_aload_n (pc := 24) k57_24 rfl ?_
      refine q_bipush (pc := 25) (v := (-4)) k57_25 (by decide) ?_
      refine q_invV (pc := 27) (As := [.int (-4)]) (st := []) k57_27 lm57_100 ov72 rfl rfl rfl (q_cat rfl) (Nat.le_of_ble_eq_true rfl) hd h ?_
      rintro v M12 ⟨r13, rfl, h⟩
      show q_Ex X d 57 (27 + 3) [some (.ref 0), some (.int a1), some (.int a2), some (.int a3), none] [.int r13] M12 _
      exact q_ireturn (pc := 30) k57_30 rfl ⟨_, rfl, h⟩
  · replace h := h.2 g3
    refine q_aload_n (pc := 14) k57_14 rfl ?_
    refine q_iconst (pc := 15) (v := (-1)) k57_15 (by decide) ?_
    refine q_invV (pc := 16) (As := [.int (-1)]) (st := []) k57_16 lm57_100 ov72 rfl rfl rfl (q_cat rfl) (Nat.le_of_ble_eq_true rfl) hd h ?_
    rintro v M14 ⟨r15, rfl, h⟩
    show q_Ex X d 57 (16 + 3) [some (.ref 0), some (.int a1), some (.int a2), some (.int a3), none] [.int r15] M14 _
    exact q_ireturn (pc := 19) k57_19 rfl ⟨_, rfl, h⟩
set_option maxRecDepth 20000 in
theorem vc58 {X : Nat × (Nat → Int32)} {d : Nat} (hd : 0 < d) {M : q_M} {K : Int32 → q_M → Prop} (h : q_Cr X (d - 1) 74 [.ref 0] M (fun r2 M1 => r2 = 64 ∧ (K (M1 64 0) M1))) : q_Ci X d 58 [.ref 0] M K := by
  show q_Ex X d 58 0 [some (.ref 0)] [] M (q_ri K)
  refine q_aload_n (pc := 0) k58_0 rfl ?_
  refine q_invV (pc := 1) (As := []) (st := []) k58_1 lm58_171 ov74 rfl rfl rfl (q_cat rfl) (Nat.le_of_ble_eq_true rfl) hd h ?_
  rintro v M1 ⟨r2, rfl, rfl, h⟩
  show q_Ex X d 58 (1 + 3) [some (.ref 0)] [.ref 64] M1 _
  refine q_getIv (pc := 4) (v := M1 64 0) k58_4 fg58_197 rfl rfl rfl ?_
  exact q_ireturn (pc := 7) k58_7 rfl ⟨_, rfl, h⟩
set_option maxRecDepth 20000 in
theorem vc59 {X : Nat × (Nat → Int32)} {d : Nat} (hd : 0 < d) {M : q_M} {K : Int32 → q_M → Prop} (h : q_Cr X (d - 1) 74 [.ref 0] M (fun r2 M1 => r2 = 64 ∧ (K (M1 64 1) M1))) : q_Ci X d 59 [.ref 0] M K := by
  show q_Ex X d 59 0 [some (.ref 0)] [] M (q_ri K)
  refine q_aload_n (pc := 0) k59_0 rfl ?_
  refine q_invV (pc := 1) (As := []) (st := []) k59_1 lm59_171 ov74 rfl rfl rfl (q_cat rfl) (Nat.le_of_ble_eq_true rfl) hd h ?_
  rintro v M1 ⟨r2, rfl, rfl, h⟩
  show q_Ex X d 59 (1 + 3) [some (.ref 0)] [.ref 64] M1 _
  refine q_getIv (pc := 4) (v := M1 64 1) k59_4 fg59_200 rfl rfl rfl ?_
  exact q_ireturn (pc := 7) k59_7 rfl ⟨_, rfl, h⟩
set_option maxRecDepth 20000 in
theorem vc60 {X : Nat × (Nat → Int32)} {d : Nat} (hd : 0 < d) {M : q_M} {a1 : Int32} {K : Int32 → q_M → Prop} (h : q_Ci X (d - 1) 23 [.ref 11, .int a1] M (fun r2 M1 => ((¬ r2 = 0) → ((((M1 10 4) < 4) → (vp_in (M1 10 4) 4 ∧ (K ((M1 10 4) + 1) (q_set (q_set M1 18 (Int32.toNatClampNeg (M1 10 4)) a1) 10 4 ((M1 10 4) + 1))))) ∧ ((¬ (M1 10 4) < 4) → (q_Ci X (d - 1) 72 [.ref 0, .int (-6)] M1 (fun r6 M5 => K r6 M5))))) ∧ ((r2 = 0) → (q_Ci X (d - 1) 72 [.ref 0, .int (-1)] M1 (fun r8 M7 => K r8 M7))))) : q_Ci X d 60 [.ref 0, .int a1] M K := by
  show q_Ex X d 60 0 [some (.ref 0), some (.int a1)] [] M (q_ri K)
  refine q_aload_n (pc := 0) k60_0 rfl ?_
  refine q_getR (pc := 1) k60_1 fg60_26 rfl rfl ?_
  refine q_getR (pc := 4) k60_4 fg60_63 rfl rfl ?_
  refine q_iload_n (pc := 7) k60_7 rfl ?_
  refine q_invV (pc := 8) (As := [.int a1]) (st := []) k60_8 lm60_121 ov23 rfl rfl rfl (q_cat rfl) (Nat.le_of_ble_eq_true rfl) hd h ?_
  rintro v M1 ⟨r2, rfl, h⟩
  show q_Ex X d 60 (8 + 3) [some (.ref 0), some (.int a1)] [.int r2] M1 _
  refine q_if_ne (pc := 11) 20 k60_11 (by decide) (fun g3 => ?_) (fun g3 => ?_)
  · replace h := h.1 g3
    refine q_aload_n (pc := 20) k60_20 rfl ?_
    refine q_getR (pc := 21) k60_21 fg60_26 rfl rfl ?_
    refine q_getIv (pc := 24) (v := M1 10 4) k60_24 fg60_203 rfl rfl rfl ?_
    refine q_iconst (pc := 27) (v := 4) k60_27 (by decide) ?_
    refine q_icmp_lt (pc := 28) 38 k60_28 (by decide) (fun g4 => ?_) (fun g4 => ?_)
    · replace h := h.1 g4
      refine q_aload_n (pc := 38) k60_38 rfl ?_
      refine q_getR (pc := 39) k60_39 fg60_26 rfl rfl ?_
      refine q_getR (pc := 42) k60_42 fg60_206 rfl rfl ?_
      refine q_aload_n (pc := 45) k60_45 rfl ?_
      refine q_getR (pc := 46) k60_46 fg60_26 rfl rfl ?_
      refine q_getIv (pc := 49) (v := M1 10 4) k60_49 fg60_203 rfl rfl rfl ?_
      refine q_iload_n (pc := 52) k60_52 rfl ?_
      refine q_iastv (pc := 53) (k := (Int32.toNatClampNeg (M1 10 4))) k60_53 rfl h.1 rfl ?_
      replace h := h.2
      refine q_aload_n (pc := 54) k60_54 rfl ?_
      refine q_getR (pc := 55) k60_55 fg60_26 rfl rfl ?_
      refine q_dup (pc := 58) k60_58 rfl ?_
      refine q_getIv (pc := 59) (v := M1 10 4) k60_59 fg60_203 rfl rfl rfl ?_
      refine q_iconst (pc := 62) (v := 1) k60_62 (by decide) ?_
      refine q_iadd (pc := 63) k60_63 ?_
      refine q_putI (pc := 64) k60_64 fp60_203 rfl rfl ?_
      refine q_aload_n (pc := 67) k60_67 rfl ?_
      refine q_getR (pc := 68) k60_68 fg60_26 rfl rfl ?_
      refine q_getIv (pc := 71) (v := (M1 10 4) + 1) k60_71 fg60_203 rfl rfl rfl ?_
      exact q_ireturn (pc := 74) k60_74 rfl ⟨_, rfl, h⟩
    · replace h := h.2 g4
      refine q_aload_n (pc := 31) k60_31 rfl ?_
      refine q_bipush (pc := 32) (v := (-6)) k60_32 (by decide) ?_
      refine q_invV (pc := 34) (As := [.int (-6)]) (st := []) k60_34 lm60_100 ov72 rfl rfl rfl (q_cat rfl) (Nat.le_of_ble_eq_true rfl) hd h ?_
      rintro v M5 ⟨r6, rfl, h⟩
      show q_Ex X d 60 (34 + 3) [some (.ref 0), some (.int a1)] [.int r6] M5 _
      exact q_ireturn (pc := 37) k60_37 rfl ⟨_, rfl, h⟩
  · replace h := h.2 g3
    refine q_aload_n (pc := 14) k60_14 rfl ?_
    refine q_iconst (pc := 15) (v := (-1)) k60_15 (by decide) ?_
    refine q_invV (pc := 16) (As := [.int (-1)]) (st := []) k60_16 lm60_100 ov72 rfl rfl rfl (q_cat rfl) (Nat.le_of_ble_eq_true rfl) hd h ?_
    rintro v M7 ⟨r8, rfl, h⟩
    show q_Ex X d 60 (16 + 3) [some (.ref 0), some (.int a1)] [.int r8] M7 _
    exact q_ireturn (pc := 19) k60_19 rfl ⟨_, rfl, h⟩
set_option maxRecDepth 20000 in
theorem vc61 {X : Nat × (Nat → Int32)} {d : Nat} (hd : 0 < d) {M : q_M} {K : Int32 → q_M → Prop} (h : q_Ci X (d - 1) 73 [.ref 0] M (fun r2 M1 => ((¬ r2 = 0) → (q_Ci X (d - 1) 6 [.ref 10] M1 (fun r5 M4 => ((¬ r5 = 0) → (q_Cr X (d - 1) 74 [.ref 0] M4 (fun r8 M7 => r8 = 64 ∧ (q_Cr X (d - 1) 75 [.ref 0] M7 (fun r10 M9 => q_Ci X (d - 1) 1 [.ref 91, .ref r10, .int (M9 10 3), .int r5, .int 2147483647] M9 (fun r12 M11 => K r12 M11)))))) ∧ ((r5 = 0) → (q_Ci X (d - 1) 77 [.ref 0] M4 (fun r14 M13 => K r14 M13)))))) ∧ ((r2 = 0) → (q_Ci X (d - 1) 72 [.ref 0, .int (-3)] M1 (fun r16 M15 => K r16 M15))))) : q_Ci X d 61 [.ref 0] M K := by
  show q_Ex X d 61 0 [some (.ref 0), none] [] M (q_ri K)
  refine q_aload_n (pc := 0) k61_0 rfl ?_
  refine q_invV (pc := 1) (As := []) (st := []) k61_1 lm61_137 ov73 rfl rfl rfl (q_cat rfl) (Nat.le_of_ble_eq_true rfl) hd h ?_
  rintro v M1 ⟨r2, rfl, h⟩
  show q_Ex X d 61 (1 + 3) [some (.ref 0), none] [.int r2] M1 _
  refine q_if_ne (pc := 4) 14 k61_4 (by decide) (fun g3 => ?_) (fun g3 => ?_)
  · replace h := h.1 g3
    refine q_aload_n (pc := 14) k61_14 rfl ?_
    refine q_getR (pc := 15) k61_15 fg61_26 rfl rfl ?_
    refine q_invV (pc := 18) (As := []) (st := []) k61_18 lm61_209 ov6 rfl rfl rfl (q_cat rfl) (Nat.le_of_ble_eq_true rfl) hd h ?_
    rintro v M4 ⟨r5, rfl, h⟩
    show q_Ex X d 61 (18 + 3) [some (.ref 0), none] [.int r5] M4 _
    refine q_istore_n (pc := 21) [some (.ref 0), some (.int r5)] k61_21 rfl (by decide) rfl ?_
    refine q_iload_n (pc := 22) k61_22 rfl ?_
    refine q_if_ne (pc := 23) 31 k61_23 (by decide) (fun g6 => ?_) (fun g6 => ?_)
    · replace h := h.1 g6
      refine q_aload_n (pc := 31) k61_31 rfl ?_
      refine q_invV (pc := 32) (As := []) (st := []) k61_32 lm61_171 ov74 rfl rfl rfl (q_cat rfl) (Nat.le_of_ble_eq_true rfl) hd h ?_
      rintro v M7 ⟨r8, rfl, rfl, h⟩
      show q_Ex X d 61 (32 + 3) [some (.ref 0), some (.int r5)] [.ref 64] M7 _
      refine q_pop (pc := 35) k61_35 rfl ?_
      refine q_aload_n (pc := 36) k61_36 rfl ?_
      refine q_getR (pc := 37) k61_37 fg61_94 rfl rfl ?_
      refine q_aload_n (pc := 40) k61_40 rfl ?_
      refine q_invV (pc := 41) (As := []) (st := [.ref 91]) k61_41 lm61_212 ov75 rfl rfl rfl (q_cat rfl) (Nat.le_of_ble_eq_true rfl) hd h ?_
      rintro v M9 ⟨r10, rfl, h⟩
      show q_Ex X d 61 (41 + 3) [some (.ref 0), some (.int r5)] [.ref r10, .ref 91] M9 _
      refine q_aload_n (pc := 44) k61_44 rfl ?_
      refine q_getR (pc := 45) k61_45 fg61_26 rfl rfl ?_
      refine q_getIv (pc := 48) (v := M9 10 3) k61_48 fg61_148 rfl rfl rfl ?_
      refine q_iload_n (pc := 51) k61_51 rfl ?_
      refine q_ldc (pc := 52) (v := 2147483647) k61_52 ld61_216 ?_
      refine q_invV (pc := 54) (As := [.ref r10, .int (M9 10 3), .int r5, .int 2147483647]) (st := []) k61_54 lm61_217 ov1 rfl rfl rfl (q_cat rfl) (Nat.le_of_ble_eq_true rfl) hd h ?_
      rintro v M11 ⟨r12, rfl, h⟩
      show q_Ex X d 61 (54 + 3) [some (.ref 0), some (.int r5)] [.int r12] M11 _
      exact q_ireturn (pc := 57) k61_57 rfl ⟨_, rfl, h⟩
    · replace h := h.2 g6
      refine q_aload_n (pc := 26) k61_26 rfl ?_
      refine q_invV (pc := 27) (As := []) (st := []) k61_27 lm61_157 ov77 rfl rfl rfl (q_cat rfl) (Nat.le_of_ble_eq_true rfl) hd h ?_
      rintro v M13 ⟨r14, rfl, h⟩
      show q_Ex X d 61 (27 + 3) [some (.ref 0), some (.int r5)] [.int r14] M13 _
      exact q_ireturn (pc := 30) k61_30 rfl ⟨_, rfl, h⟩
  · replace h := h.2 g3
    refine q_aload_n (pc := 7) k61_7 rfl ?_
    refine q_bipush (pc := 8) (v := (-3)) k61_8 (by decide) ?_
    refine q_invV (pc := 10) (As := [.int (-3)]) (st := []) k61_10 lm61_100 ov72 rfl rfl rfl (q_cat rfl) (Nat.le_of_ble_eq_true rfl) hd h ?_
    rintro v M15 ⟨r16, rfl, h⟩
    show q_Ex X d 61 (10 + 3) [some (.ref 0), none] [.int r16] M15 _
    exact q_ireturn (pc := 13) k61_13 rfl ⟨_, rfl, h⟩
set_option maxRecDepth 20000 in
theorem vc62 {X : Nat × (Nat → Int32)} {d : Nat} (hd : 0 < d) {M : q_M} {a1 : Int32} {K : Int32 → q_M → Prop} (h : q_Ci X (d - 1) 23 [.ref 11, .int a1] M (fun r2 M1 => ((¬ r2 = 0) → (q_Cr X (d - 1) 74 [.ref 0] M1 (fun r5 M4 => r5 = 64 ∧ (q_Ci X (d - 1) 76 [.ref 0] M4 (fun r7 M6 => q_Ci X (d - 1) 38 [.ref 64, .int a1, .int r7] M6 (fun r9 M8 => K r9 M8)))))) ∧ ((r2 = 0) → (q_Ci X (d - 1) 72 [.ref 0, .int (-1)] M1 (fun r11 M10 => K r11 M10))))) : q_Ci X d 62 [.ref 0, .int a1] M K := by
  show q_Ex X d 62 0 [some (.ref 0), some (.int a1)] [] M (q_ri K)
  refine q_aload_n (pc := 0) k62_0 rfl ?_
  refine q_getR (pc := 1) k62_1 fg62_26 rfl rfl ?_
  refine q_getR (pc := 4) k62_4 fg62_63 rfl rfl ?_
  refine q_iload_n (pc := 7) k62_7 rfl ?_
  refine q_invV (pc := 8) (As := [.int a1]) (st := []) k62_8 lm62_121 ov23 rfl rfl rfl (q_cat rfl) (Nat.le_of_ble_eq_true rfl) hd h ?_
  rintro v M1 ⟨r2, rfl, h⟩
  show q_Ex X d 62 (8 + 3) [some (.ref 0), some (.int a1)] [.int r2] M1 _
  refine q_if_ne (pc := 11) 20 k62_11 (by decide) (fun g3 => ?_) (fun g3 => ?_)
  · replace h := h.1 g3
    refine q_aload_n (pc := 20) k62_20 rfl ?_
    refine q_invV (pc := 21) (As := []) (st := []) k62_21 lm62_171 ov74 rfl rfl rfl (q_cat rfl) (Nat.le_of_ble_eq_true rfl) hd h ?_
    rintro v M4 ⟨r5, rfl, rfl, h⟩
    show q_Ex X d 62 (21 + 3) [some (.ref 0), some (.int a1)] [.ref 64] M4 _
    refine q_iload_n (pc := 24) k62_24 rfl ?_
    refine q_aload_n (pc := 25) k62_25 rfl ?_
    refine q_invV (pc := 26) (As := []) (st := [.int a1, .ref 64]) k62_26 lm62_178 ov76 rfl rfl rfl (q_cat rfl) (Nat.le_of_ble_eq_true rfl) hd h ?_
    rintro v M6 ⟨r7, rfl, h⟩
    show q_Ex X d 62 (26 + 3) [some (.ref 0), some (.int a1)] [.int r7, .int a1, .ref 64] M6 _
    refine q_invV (pc := 29) (As := [.int a1, .int r7]) (st := []) k62_29 lm62_221 ov38 rfl rfl rfl (q_cat rfl) (Nat.le_of_ble_eq_true rfl) hd h ?_
    rintro v M8 ⟨r9, rfl, h⟩
    show q_Ex X d 62 (29 + 3) [some (.ref 0), some (.int a1)] [.int r9] M8 _
    exact q_ireturn (pc := 32) k62_32 rfl ⟨_, rfl, h⟩
  · replace h := h.2 g3
    refine q_aload_n (pc := 14) k62_14 rfl ?_
    refine q_iconst (pc := 15) (v := (-1)) k62_15 (by decide) ?_
    refine q_invV (pc := 16) (As := [.int (-1)]) (st := []) k62_16 lm62_100 ov72 rfl rfl rfl (q_cat rfl) (Nat.le_of_ble_eq_true rfl) hd h ?_
    rintro v M10 ⟨r11, rfl, h⟩
    show q_Ex X d 62 (16 + 3) [some (.ref 0), some (.int a1)] [.int r11] M10 _
    exact q_ireturn (pc := 19) k62_19 rfl ⟨_, rfl, h⟩
set_option maxRecDepth 20000 in
theorem vc63 {X : Nat × (Nat → Int32)} {d : Nat} (hd : 0 < d) {M : q_M} {a1 : Int32} {K : Int32 → q_M → Prop} (h : q_Ci X (d - 1) 23 [.ref 11, .int a1] M (fun r2 M1 => ((¬ r2 = 0) → (vp_in a1 30 ∧ ((((M1 12 (Int32.toNatClampNeg a1)) = 0) → (q_Ci X (d - 1) 78 [.ref 0, .int a1] M1 (fun r6 M5 => K r6 M5))) ∧ ((¬ (M1 12 (Int32.toNatClampNeg a1)) = 0) → (q_Ci X (d - 1) 72 [.ref 0, .int (-3)] M1 (fun r8 M7 => K r8 M7)))))) ∧ ((r2 = 0) → (q_Ci X (d - 1) 72 [.ref 0, .int (-1)] M1 (fun r10 M9 => K r10 M9))))) : q_Ci X d 63 [.ref 0, .int a1] M K := by
  show q_Ex X d 63 0 [some (.ref 0), some (.int a1)] [] M (q_ri K)
  refine q_aload_n (pc := 0) k63_0 rfl ?_
  refine q_getR (pc := 1) k63_1 fg63_26 rfl rfl ?_
  refine q_getR (pc := 4) k63_4 fg63_63 rfl rfl ?_
  refine q_iload_n (pc := 7) k63_7 rfl ?_
  refine q_invV (pc := 8) (As := [.int a1]) (st := []) k63_8 lm63_121 ov23 rfl rfl rfl (q_cat rfl) (Nat.le_of_ble_eq_true rfl) hd h ?_
  rintro v M1 ⟨r2, rfl, h⟩
  show q_Ex X d 63 (8 + 3) [some (.ref 0), some (.int a1)] [.int r2] M1 _
  refine q_if_ne (pc := 11) 20 k63_11 (by decide) (fun g3 => ?_) (fun g3 => ?_)
  · replace h := h.1 g3
    refine q_aload_n (pc := 20) k63_20 rfl ?_
    refine q_getR (pc := 21) k63_21 fg63_26 rfl rfl ?_
    refine q_getR (pc := 24) k63_24 fg63_63 rfl rfl ?_
    refine q_getR (pc := 27) k63_27 fg63_125 rfl rfl ?_
    refine q_iload_n (pc := 30) k63_30 rfl ?_
    refine q_ialdv (pc := 31) (v := M1 12 (Int32.toNatClampNeg a1)) k63_31 rfl h.1 rfl ?_
    replace h := h.2
    refine q_if_eq (pc := 32) 42 k63_32 (by decide) (fun g4 => ?_) (fun g4 => ?_)
    · replace h := h.1 g4
      refine q_aload_n (pc := 42) k63_42 rfl ?_
      refine q_iload_n (pc := 43) k63_43 rfl ?_
      refine q_invV (pc := 44) (As := [.int a1]) (st := []) k63_44 lm63_184 ov78 rfl rfl rfl (q_cat rfl) (Nat.le_of_ble_eq_true rfl) hd h ?_
      rintro v M5 ⟨r6, rfl, h⟩
      show q_Ex X d 63 (44 + 3) [some (.ref 0), some (.int a1)] [.int r6] M5 _
      exact q_ireturn (pc := 47) k63_47 rfl ⟨_, rfl, h⟩
    · replace h := h.2 g4
      refine q_aload_n (pc := 35) k63_35 rfl ?_
      refine q_bipush (pc := 36) (v := (-3)) k63_36 (by decide) ?_
      refine q_invV (pc := 38) (As := [.int (-3)]) (st := []) k63_38 lm63_100 ov72 rfl rfl rfl (q_cat rfl) (Nat.le_of_ble_eq_true rfl) hd h ?_
      rintro v M7 ⟨r8, rfl, h⟩
      show q_Ex X d 63 (38 + 3) [some (.ref 0), some (.int a1)] [.int r8] M7 _
      exact q_ireturn (pc := 41) k63_41 rfl ⟨_, rfl, h⟩
  · replace h := h.2 g3
    refine q_aload_n (pc := 14) k63_14 rfl ?_
    refine q_iconst (pc := 15) (v := (-1)) k63_15 (by decide) ?_
    refine q_invV (pc := 16) (As := [.int (-1)]) (st := []) k63_16 lm63_100 ov72 rfl rfl rfl (q_cat rfl) (Nat.le_of_ble_eq_true rfl) hd h ?_
    rintro v M9 ⟨r10, rfl, h⟩
    show q_Ex X d 63 (16 + 3) [some (.ref 0), some (.int a1)] [.int r10] M9 _
    exact q_ireturn (pc := 19) k63_19 rfl ⟨_, rfl, h⟩
set_option maxRecDepth 20000 in
theorem vc64 {X : Nat × (Nat → Int32)} {d : Nat} {M : q_M} {K : Int32 → q_M → Prop} (h : q_Ex X d 64 11 [some (.ref 0), some (.int (M 11 4))] [] M (q_ri K)) : q_Ci X d 64 [.ref 0] M K := by
  show q_Ex X d 64 0 [some (.ref 0), none] [] M (q_ri K)
  refine q_aload_n (pc := 0) k64_0 rfl ?_
  refine q_getR (pc := 1) k64_1 fg64_26 rfl rfl ?_
  refine q_getR (pc := 4) k64_4 fg64_63 rfl rfl ?_
  refine q_getIv (pc := 7) (v := M 11 4) k64_7 fg64_141 rfl rfl rfl ?_
  refine q_istore_n (pc := 10) [some (.ref 0), some (.int (M 11 4))] k64_10 rfl (by decide) rfl ?_
  exact h
set_option maxRecDepth 20000 in
theorem vc64_p11 {X : Nat × (Nat → Int32)} {d : Nat} (hd : 0 < d) {M : q_M} {a1 : Int32} {K : Int32 → q_M → Prop} (h : ((a1 ≤ 0) → (K 0 M)) ∧ ((¬ a1 ≤ 0) → (q_Cv X (d - 1) 41 [.ref 54, .int a1] M (fun M2 => q_Ci X (d - 1) 1 [.ref 94, .ref 39, .int 0, .int 0, .int 1] M2 (fun r4 M3 => ((r4 ≤ 0) → (q_Ex X d 64 11 [some (.ref 0), some (.int (a1 + (-1)))] [] M3 (q_ri K))) ∧ ((¬ r4 ≤ 0) → (K a1 M3))))))) : q_Ex X d 64 11 [some (.ref 0), some (.int a1)] [] M (q_ri K) := by
  refine q_iload_n (pc := 11) k64_11 rfl ?_
  refine q_if_le (pc := 12) 50 k64_12 (by decide) (fun g1 => ?_) (fun g1 => ?_)
  · replace h := h.1 g1
    refine q_iconst (pc := 50) (v := 0) k64_50 (by decide) ?_
    exact q_ireturn (pc := 51) k64_51 rfl ⟨_, rfl, h⟩
  · replace h := h.2 g1
    refine q_aload_n (pc := 15) k64_15 rfl ?_
    refine q_getR (pc := 16) k64_16 fg64_73 rfl rfl ?_
    refine q_iload_n (pc := 19) k64_19 rfl ?_
    refine q_invV (pc := 20) (As := [.int a1]) (st := []) k64_20 lm64_224 ov41 rfl rfl rfl (q_cat rfl) (Nat.le_of_ble_eq_true rfl) hd h ?_
    rintro v M2 ⟨rfl, h⟩
    show q_Ex X d 64 (20 + 3) [some (.ref 0), some (.int a1)] [] M2 _
    refine q_aload_n (pc := 23) k64_23 rfl ?_
    refine q_getR (pc := 24) k64_24 fg64_97 rfl rfl ?_
    refine q_aload_n (pc := 27) k64_27 rfl ?_
    refine q_getR (pc := 28) k64_28 fg64_50 rfl rfl ?_
    refine q_iconst (pc := 31) (v := 0) k64_31 (by decide) ?_
    refine q_aaldv (pc := 32) (t := 39) k64_32 rfl (q_vin (by decide)) rfl ?_
    refine q_iconst (pc := 33) (v := 0) k64_33 (by decide) ?_
    refine q_iconst (pc := 34) (v := 0) k64_34 (by decide) ?_
    refine q_iconst (pc := 35) (v := 1) k64_35 (by decide) ?_
    refine q_invV (pc := 36) (As := [.ref 39, .int 0, .int 0, .int 1]) (st := []) k64_36 lm64_217 ov1 rfl rfl rfl (q_cat rfl) (Nat.le_of_ble_eq_true rfl) hd h ?_
    rintro v M3 ⟨r4, rfl, h⟩
    show q_Ex X d 64 (36 + 3) [some (.ref 0), some (.int a1)] [.int r4] M3 _
    refine q_if_le (pc := 39) 44 k64_39 (by decide) (fun g5 => ?_) (fun g5 => ?_)
    · replace h := h.1 g5
      refine q_iinc (pc := 44) (v := a1 + (-1)) [some (.ref 0), some (.int (a1 + (-1)))] k64_44 rfl rfl rfl (by decide) rfl ?_
      refine q_goto (pc := 47) 11 k64_47 (by decide) ?_
      exact h
    · replace h := h.2 g5
      refine q_iload_n (pc := 42) k64_42 rfl ?_
      exact q_ireturn (pc := 43) k64_43 rfl ⟨_, rfl, h⟩
set_option maxRecDepth 20000 in
theorem vc65 {X : Nat × (Nat → Int32)} {d : Nat} (hd : 0 < d) {M : q_M} {a1 a2 a3 : Int32} {K : Int32 → q_M → Prop} (h : ((a1 < 0) → (q_Ci X (d - 1) 72 [.ref 0, .int (-4)] M (fun r3 M2 => K r3 M2))) ∧ ((¬ a1 < 0) → (((a2 < 0) → (q_Ci X (d - 1) 72 [.ref 0, .int (-4)] M (fun r6 M5 => K r6 M5))) ∧ ((¬ a2 < 0) → (((0 ≤ a3) → (((4 < a1) → (q_Ci X (d - 1) 72 [.ref 0, .int (-6)] M (fun r10 M9 => K r10 M9))) ∧ ((¬ 4 < a1) → (((4 < a2) → (q_Ci X (d - 1) 72 [.ref 0, .int (-6)] M (fun r13 M12 => K r13 M12))) ∧ ((¬ 4 < a2) → (((a3 ≤ 4) → (q_Ci X (d - 1) 84 [.int a1, .int a2, .int a3] M (fun r16 M15 => K r16 M15))) ∧ ((¬ a3 ≤ 4) → (q_Ci X (d - 1) 72 [.ref 0, .int (-6)] M (fun r18 M17 => K r18 M17))))))))) ∧ ((¬ 0 ≤ a3) → (q_Ci X (d - 1) 72 [.ref 0, .int (-4)] M (fun r20 M19 => K r20 M19)))))))) : q_Ci X d 65 [.ref 0, .int a1, .int a2, .int a3] M K := by
  show q_Ex X d 65 0 [some (.ref 0), some (.int a1), some (.int a2), some (.int a3)] [] M (q_ri K)
  refine q_iload_n (pc := 0) k65_0 rfl ?_
  refine q_if_lt (pc := 1) 12 k65_1 (by decide) (fun g1 => ?_) (fun g1 => ?_)
  · replace h := h.1 g1
    refine q_aload_n (pc := 12) k65_12 rfl ?_
    refine q_bipush (pc := 13) (v := (-4)) k65_13 (by decide) ?_
    refine q_invV (pc := 15) (As := [.int (-4)]) (st := []) k65_15 lm65_100 ov72 rfl rfl rfl (q_cat rfl) (Nat.le_of_ble_eq_true rfl) hd h ?_
    rintro v M2 ⟨r3, rfl, h⟩
    show q_Ex X d 65 (15 + 3) [some (.ref 0), some (.int a1), some (.int a2), some (.int a3)] [.int r3] M2 _
    exact q_ireturn (pc := 18) k65_18 rfl ⟨_, rfl, h⟩
  · replace h := h.2 g1
    refine q_iload_n (pc := 4) k65_4 rfl ?_
    refine q_if_lt (pc := 5) 12 k65_5 (by decide) (fun g4 => ?_) (fun g4 => ?_)
    · replace h := h.1 g4
      refine q_aload_n (pc := 12) k65_12 rfl ?_
      refine q_bipush (pc := 13) (v := (-4)) k65_13 (by decide) ?_
      refine q_invV (pc := 15) (As := [.int (-4)]) (st := []) k65_15 lm65_100 ov72 rfl rfl rfl (q_cat rfl) (Nat.le_of_ble_eq_true rfl) hd h ?_
      rintro v M5 ⟨r6, rfl, h⟩
      show q_Ex X d 65 (15 + 3) [some (.ref 0), some (.int a1), some (.int a2), some (.int a3)] [.int r6] M5 _
      exact q_ireturn (pc := 18) k65_18 rfl ⟨_, rfl, h⟩
    · replace h := h.2 g4
      refine q_iload_n (pc := 8) k65_8 rfl ?_
      refine q_if_ge (pc := 9) 19 k65_9 (by decide) (fun g7 => ?_) (fun g7 => ?_)
      · replace h := h.1 g7
        refine q_iload_n (pc := 19) k65_19 rfl ?_
        refine q_iconst (pc := 20) (v := 4) k65_20 (by decide) ?_
        refine q_icmp_gt (pc := 21) 34 k65_21 (by decide) (fun g8 => ?_) (fun g8 => ?_)
        · replace h := h.1 g8
          refine q_aload_n (pc := 34) k65_34 rfl ?_
          refine q_bipush (pc := 35) (v := (-6)) k65_35 (by decide) ?_
          refine q_invV (pc := 37) (As := [.int (-6)]) (st := []) k65_37 lm65_100 ov72 rfl rfl rfl (q_cat rfl) (Nat.le_of_ble_eq_true rfl) hd h ?_
          rintro v M9 ⟨r10, rfl, h⟩
          show q_Ex X d 65 (37 + 3) [some (.ref 0), some (.int a1), some (.int a2), some (.int a3)] [.int r10] M9 _
          exact q_ireturn (pc := 40) k65_40 rfl ⟨_, rfl, h⟩
        · replace h := h.2 g8
          refine q_iload_n (pc := 24) k65_24 rfl ?_
          refine q_iconst (pc := 25) (v := 4) k65_25 (by decide) ?_
          refine q_icmp_gt (pc := 26) 34 k65_26 (by decide) (fun g11 => ?_) (fun g11 => ?_)
          · replace h := h.1 g11
            refine q_aload_n (pc := 34) k65_34 rfl ?_
            refine q_bipush (pc := 35) (v := (-6)) k65_35 (by decide) ?_
            refine q_invV (pc := 37) (As := [.int (-6)]) (st := []) k65_37 lm65_100 ov72 rfl rfl rfl (q_cat rfl) (Nat.le_of_ble_eq_true rfl) hd h ?_
            rintro v M12 ⟨r13, rfl, h⟩
            show q_Ex X d 65 (37 + 3) [some (.ref 0), some (.int a1), some (.int a2), some (.int a3)] [.int r13] M12 _
            exact q_ireturn (pc := 40) k65_40 rfl ⟨_, rfl, h⟩
          · replace h := h.2 g11
            refine q_iload_n (pc := 29) k65_29 rfl ?_
            refine q_iconst (pc := 30) (v := 4) k65_30 (by decide) ?_
            refine q_icmp_le (pc := 31) 41 k65_31 (by decide) (fun g14 => ?_) (fun g14 => ?_)
            · replace h := h.1 g14
              refine q_iload_n (pc := 41) k65_41 rfl ?_
              refine q_iload_n (pc := 42) k65_42 rfl ?_
              refine q_iload_n (pc := 43) k65_43 rfl ?_
              refine q_invS (pc := 44) (As := [.int a1, .int a2, .int a3]) (st := []) k65_44 lm65_228 os84 rfl rfl (q_cat rfl) (Nat.le_of_ble_eq_true rfl) hd h ?_
              rintro v M15 ⟨r16, rfl, h⟩
              show q_Ex X d 65 (44 + 3) [some (.ref 0), some (.int a1), some (.int a2), some (.int a3)] [.int r16] M15 _
              exact q_ireturn (pc := 47) k65_47 rfl ⟨_, rfl, h⟩
            · replace h := h.2 g14
              refine q_aload_n (pc := 34) k65_34 rfl ?_
              refine q_bipush (pc := 35) (v := (-6)) k65_35 (by decide) ?_
              refine q_invV (pc := 37) (As := [.int (-6)]) (st := []) k65_37 lm65_100 ov72 rfl rfl rfl (q_cat rfl) (Nat.le_of_ble_eq_true rfl) hd h ?_
              rintro v M17 ⟨r18, rfl, h⟩
              show q_Ex X d 65 (37 + 3) [some (.ref 0), some (.int a1), some (.int a2), some (.int a3)] [.int r18] M17 _
              exact q_ireturn (pc := 40) k65_40 rfl ⟨_, rfl, h⟩
      · replace h := h.2 g7
        refine q_aload_n (pc := 12) k65_12 rfl ?_
        refine q_bipush (pc := 13) (v := (-4)) k65_13 (by decide) ?_
        refine q_invV (pc := 15) (As := [.int (-4)]) (st := []) k65_15 lm65_100 ov72 rfl rfl rfl (q_cat rfl) (Nat.le_of_ble_eq_true rfl) hd h ?_
        rintro v M19 ⟨r20, rfl, h⟩
        show q_Ex X d 65 (15 + 3) [some (.ref 0), some (.int a1), some (.int a2), some (.int a3)] [.int r20] M19 _
        exact q_ireturn (pc := 18) k65_18 rfl ⟨_, rfl, h⟩
set_option maxRecDepth 20000 in
theorem vc66 {X : Nat × (Nat → Int32)} {d : Nat} (hd : 0 < d) {M : q_M} {a1 a2 : Int32} {K : Int32 → q_M → Prop} (h : q_Ci X (d - 1) 24 [.ref 11, .int a1] M (fun r2 M1 => ((¬ r2 = 0) → (((a2 = 0) → (vp_in a1 3 ∧ ((((M1 19 (Int32.toNatClampNeg a1)) < 10) → (vp_in a1 3 ∧ (vp_in (M1 19 (Int32.toNatClampNeg a1)) 10 ∧ (vp_in a1 3 ∧ (K ((M1 19 (Int32.toNatClampNeg a1)) + 1) (q_set (q_set M1 (21 + Int32.toNatClampNeg a1) (Int32.toNatClampNeg (M1 19 (Int32.toNatClampNeg a1))) a2) 19 (Int32.toNatClampNeg a1) ((M1 19 (Int32.toNatClampNeg a1)) + 1))))))) ∧ ((¬ (M1 19 (Int32.toNatClampNeg a1)) < 10) → (q_Ci X (d - 1) 72 [.ref 0, .int (-6)] M1 (fun r8 M7 => K r8 M7)))))) ∧ ((¬ a2 = 0) → (((a2 = 1) → (vp_in a1 3 ∧ ((((M1 19 (Int32.toNatClampNeg a1)) < 10) → (vp_in a1 3 ∧ (vp_in (M1 19 (Int32.toNatClampNeg a1)) 10 ∧ (vp_in a1 3 ∧ (K ((M1 19 (Int32.toNatClampNeg a1)) + 1) (q_set (q_set M1 (21 + Int32.toNatClampNeg a1) (Int32.toNatClampNeg (M1 19 (Int32.toNatClampNeg a1))) a2) 19 (Int32.toNatClampNeg a1) ((M1 19 (Int32.toNatClampNeg a1)) + 1))))))) ∧ ((¬ (M1 19 (Int32.toNatClampNeg a1)) < 10) → (q_Ci X (d - 1) 72 [.ref 0, .int (-6)] M1 (fun r13 M12 => K r13 M12)))))) ∧ ((¬ a2 = 1) → (q_Ci X (d - 1) 72 [.ref 0, .int (-2)] M1 (fun r15 M14 => K r15 M14))))))) ∧ ((r2 = 0) → (q_Ci X (d - 1) 72 [.ref 0, .int (-1)] M1 (fun r17 M16 => K r17 M16))))) : q_Ci X d 66 [.ref 0, .int a1, .int a2] M K := by
  show q_Ex X d 66 0 [some (.ref 0), some (.int a1), some (.int a2), none] [] M (q_ri K)
  refine q_aload_n (pc := 0) k66_0 rfl ?_
  refine q_getR (pc := 1) k66_1 fg66_26 rfl rfl ?_
  refine q_getR (pc := 4) k66_4 fg66_63 rfl rfl ?_
  refine q_iload_n (pc := 7) k66_7 rfl ?_
  refine q_invV (pc := 8) (As := [.int a1]) (st := []) k66_8 lm66_151 ov24 rfl rfl rfl (q_cat rfl) (Nat.le_of_ble_eq_true rfl) hd h ?_
  rintro v M1 ⟨r2, rfl, h⟩
  show q_Ex X d 66 (8 + 3) [some (.ref 0), some (.int a1), some (.int a2), none] [.int r2] M1 _
  refine q_if_ne (pc := 11) 20 k66_11 (by decide) (fun g3 => ?_) (fun g3 => ?_)
  · replace h := h.1 g3
    refine q_iload_n (pc := 20) k66_20 rfl ?_
    refine q_if_eq (pc := 21) 36 k66_21 (by decide) (fun g4 => ?_) (fun g4 => ?_)
    · replace h := h.1 g4
      refine q_aload_n (pc := 36) k66_36 rfl ?_
      refine q_getR (pc := 37) k66_37 fg66_26 rfl rfl ?_
      refine q_getR (pc := 40) k66_40 fg66_232 rfl rfl ?_
      refine q_iload_n (pc := 43) k66_43 rfl ?_
      refine q_ialdv (pc := 44) (v := M1 19 (Int32.toNatClampNeg a1)) k66_44 rfl h.1 rfl ?_
      replace h := h.2
      refine q_istore_n (pc := 45) [some (.ref 0), some (.int a1), some (.int a2), some (.int (M1 19 (Int32.toNatClampNeg a1)))] k66_45 rfl (by decide) rfl ?_
      refine q_iload_n (pc := 46) k66_46 rfl ?_
      refine q_bipush (pc := 47) (v := 10) k66_47 (by decide) ?_
      refine q_icmp_lt (pc := 49) 59 k66_49 (by decide) (fun g5 => ?_) (fun g5 => ?_)
      · replace h := h.1 g5
        refine q_aload_n (pc := 59) k66_59 rfl ?_
        refine q_getR (pc := 60) k66_60 fg66_26 rfl rfl ?_
        refine q_getR (pc := 63) k66_63 fg66_235 rfl rfl ?_
        refine q_iload_n (pc := 66) k66_66 rfl ?_
        have w6 := h.1
        replace h := h.2
        refine q_aald (pc := 67) k66_67 rfl w6 ?_
        refine q_iload_n (pc := 68) k66_68 rfl ?_
        refine q_iload_n (pc := 69) k66_69 rfl ?_
        refine q_iastv (pc := 70) (k := (Int32.toNatClampNeg (M1 19 (Int32.toNatClampNeg a1)))) k66_70 (rw20 w6) h.1 rfl ?_
        replace h := h.2
        refine q_aload_n (pc := 71) k66_71 rfl ?_
        refine q_getR (pc := 72) k66_72 fg66_26 rfl rfl ?_
        refine q_getR (pc := 75) k66_75 fg66_232 rfl rfl ?_
        refine q_iload_n (pc := 78) k66_78 rfl ?_
        refine q_iload_n (pc := 79) k66_79 rfl ?_
        refine q_iconst (pc := 80) (v := 1) k66_80 (by decide) ?_
        refine q_iadd (pc := 81) k66_81 ?_
        refine q_iastv (pc := 82) (k := (Int32.toNatClampNeg a1)) k66_82 rfl h.1 rfl ?_
        replace h := h.2
        refine q_iload_n (pc := 83) k66_83 rfl ?_
        refine q_iconst (pc := 84) (v := 1) k66_84 (by decide) ?_
        refine q_iadd (pc := 85) k66_85 ?_
        exact q_ireturn (pc := 86) k66_86 rfl ⟨_, rfl, h⟩
      · replace h := h.2 g5
        refine q_aload_n (pc := 52) k66_52 rfl ?_
        refine q_bipush (pc := 53) (v := (-6)) k66_53 (by decide) ?_
        refine q_invV (pc := 55) (As := [.int (-6)]) (st := []) k66_55 lm66_100 ov72 rfl rfl rfl (q_cat rfl) (Nat.le_of_ble_eq_true rfl) hd h ?_
        rintro v M7 ⟨r8, rfl, h⟩
        show q_Ex X d 66 (55 + 3) [some (.ref 0), some (.int a1), some (.int a2), some (.int (M1 19 (Int32.toNatClampNeg a1)))] [.int r8] M7 _
        exact q_ireturn (pc := 58) k66_58 rfl ⟨_, rfl, h⟩
    · replace h := h.2 g4
      refine q_iload_n (pc := 24) k66_24 rfl ?_
      refine q_iconst (pc := 25) (v := 1) k66_25 (by decide) ?_
      refine q_icmp_eq (pc := 26) 36 k66_26 (by decide) (fun g9 => ?_) (fun g9 => ?_)
      · replace h := h.1 g9
        refine q_aload_n (pc := 36) k66_36 rfl ?_
        refine q_getR (pc := 37) k66_37 fg66_26 rfl rfl ?_
        refine q_getR (pc := 40) k66_40 fg66_232 rfl rfl ?_
        refine q_iload_n (pc := 43) k66_43 rfl ?_
        refine q_ialdv (pc := 44) (v := M1 19 (Int32.toNatClampNeg a1)) k66_44 rfl h.1 rfl ?_
        replace h := h.2
        refine q_istore_n (pc := 45) [some (.ref 0), some (.int a1), some (.int a2), some (.int (M1 19 (Int32.toNatClampNeg a1)))] k66_45 rfl (by decide) rfl ?_
        refine q_iload_n (pc := 46) k66_46 rfl ?_
        refine q_bipush (pc := 47) (v := 10) k66_47 (by decide) ?_
        refine q_icmp_lt (pc := 49) 59 k66_49 (by decide) (fun g10 => ?_) (fun g10 => ?_)
        · replace h := h.1 g10
          refine q_aload_n (pc := 59) k66_59 rfl ?_
          refine q_getR (pc := 60) k66_60 fg66_26 rfl rfl ?_
          refine q_getR (pc := 63) k66_63 fg66_235 rfl rfl ?_
          refine q_iload_n (pc := 66) k66_66 rfl ?_
          have w11 := h.1
          replace h := h.2
          refine q_aald (pc := 67) k66_67 rfl w11 ?_
          refine q_iload_n (pc := 68) k66_68 rfl ?_
          refine q_iload_n (pc := 69) k66_69 rfl ?_
          refine q_iastv (pc := 70) (k := (Int32.toNatClampNeg (M1 19 (Int32.toNatClampNeg a1)))) k66_70 (rw20 w11) h.1 rfl ?_
          replace h := h.2
          refine q_aload_n (pc := 71) k66_71 rfl ?_
          refine q_getR (pc := 72) k66_72 fg66_26 rfl rfl ?_
          refine q_getR (pc := 75) k66_75 fg66_232 rfl rfl ?_
          refine q_iload_n (pc := 78) k66_78 rfl ?_
          refine q_iload_n (pc := 79) k66_79 rfl ?_
          refine q_iconst (pc := 80) (v := 1) k66_80 (by decide) ?_
          refine q_iadd (pc := 81) k66_81 ?_
          refine q_iastv (pc := 82) (k := (Int32.toNatClampNeg a1)) k66_82 rfl h.1 rfl ?_
          replace h := h.2
          refine q_iload_n (pc := 83) k66_83 rfl ?_
          refine q_iconst (pc := 84) (v := 1) k66_84 (by decide) ?_
          refine q_iadd (pc := 85) k66_85 ?_
          exact q_ireturn (pc := 86) k66_86 rfl ⟨_, rfl, h⟩
        · replace h := h.2 g10
          refine q_aload_n (pc := 52) k66_52 rfl ?_
          refine q_bipush (pc := 53) (v := (-6)) k66_53 (by decide) ?_
          refine q_invV (pc := 55) (As := [.int (-6)]) (st := []) k66_55 lm66_100 ov72 rfl rfl rfl (q_cat rfl) (Nat.le_of_ble_eq_true rfl) hd h ?_
          rintro v M12 ⟨r13, rfl, h⟩
          show q_Ex X d 66 (55 + 3) [some (.ref 0), some (.int a1), some (.int a2), some (.int (M1 19 (Int32.toNatClampNeg a1)))] [.int r13] M12 _
          exact q_ireturn (pc := 58) k66_58 rfl ⟨_, rfl, h⟩
      · replace h := h.2 g9
        refine q_aload_n (pc := 29) k66_29 rfl ?_
        refine q_bipush (pc := 30) (v := (-2)) k66_30 (by decide) ?_
        refine q_invV (pc := 32) (As := [.int (-2)]) (st := []) k66_32 lm66_100 ov72 rfl rfl rfl (q_cat rfl) (Nat.le_of_ble_eq_true rfl) hd h ?_
        rintro v M14 ⟨r15, rfl, h⟩
        show q_Ex X d 66 (32 + 3) [some (.ref 0), some (.int a1), some (.int a2), none] [.int r15] M14 _
        exact q_ireturn (pc := 35) k66_35 rfl ⟨_, rfl, h⟩
  · replace h := h.2 g3
    refine q_aload_n (pc := 14) k66_14 rfl ?_
    refine q_iconst (pc := 15) (v := (-1)) k66_15 (by decide) ?_
    refine q_invV (pc := 16) (As := [.int (-1)]) (st := []) k66_16 lm66_100 ov72 rfl rfl rfl (q_cat rfl) (Nat.le_of_ble_eq_true rfl) hd h ?_
    rintro v M16 ⟨r17, rfl, h⟩
    show q_Ex X d 66 (16 + 3) [some (.ref 0), some (.int a1), some (.int a2), none] [.int r17] M16 _
    exact q_ireturn (pc := 19) k66_19 rfl ⟨_, rfl, h⟩
set_option maxRecDepth 20000 in
theorem vc67 {X : Nat × (Nat → Int32)} {d : Nat} (hd : 0 < d) {M : q_M} {K : Int32 → q_M → Prop} (h : q_Ci X (d - 1) 73 [.ref 0] M (fun r2 M1 => ((¬ r2 = 0) → (q_Ci X (d - 1) 7 [.ref 10] M1 (fun r5 M4 => ((r5 < 0) → (q_Ci X (d - 1) 81 [.ref 0] M4 (fun r8 M7 => ((r8 < 0) → (q_Ci X (d - 1) 10 [.ref 10] M7 (fun r11 M10 => K r11 M10))) ∧ ((¬ r8 < 0) → (K ((100 : Int32) + r8) M7))))) ∧ ((¬ r5 < 0) → (K ((1000 : Int32) + r5) M4))))) ∧ ((r2 = 0) → (q_Ci X (d - 1) 72 [.ref 0, .int (-3)] M1 (fun r13 M12 => K r13 M12))))) : q_Ci X d 67 [.ref 0] M K := by
  show q_Ex X d 67 0 [some (.ref 0), none, none] [] M (q_ri K)
  refine q_aload_n (pc := 0) k67_0 rfl ?_
  refine q_invV (pc := 1) (As := []) (st := []) k67_1 lm67_137 ov73 rfl rfl rfl (q_cat rfl) (Nat.le_of_ble_eq_true rfl) hd h ?_
  rintro v M1 ⟨r2, rfl, h⟩
  show q_Ex X d 67 (1 + 3) [some (.ref 0), none, none] [.int r2] M1 _
  refine q_if_ne (pc := 4) 14 k67_4 (by decide) (fun g3 => ?_) (fun g3 => ?_)
  · replace h := h.1 g3
    refine q_aload_n (pc := 14) k67_14 rfl ?_
    refine q_getR (pc := 15) k67_15 fg67_26 rfl rfl ?_
    refine q_invV (pc := 18) (As := []) (st := []) k67_18 lm67_239 ov7 rfl rfl rfl (q_cat rfl) (Nat.le_of_ble_eq_true rfl) hd h ?_
    rintro v M4 ⟨r5, rfl, h⟩
    show q_Ex X d 67 (18 + 3) [some (.ref 0), none, none] [.int r5] M4 _
    refine q_istore_n (pc := 21) [some (.ref 0), some (.int r5), none] k67_21 rfl (by decide) rfl ?_
    refine q_iload_n (pc := 22) k67_22 rfl ?_
    refine q_if_lt (pc := 23) 32 k67_23 (by decide) (fun g6 => ?_) (fun g6 => ?_)
    · replace h := h.1 g6
      refine q_aload_n (pc := 32) k67_32 rfl ?_
      refine q_invV (pc := 33) (As := []) (st := []) k67_33 lm67_242 ov81 rfl rfl rfl (q_cat rfl) (Nat.le_of_ble_eq_true rfl) hd h ?_
      rintro v M7 ⟨r8, rfl, h⟩
      show q_Ex X d 67 (33 + 3) [some (.ref 0), some (.int r5), none] [.int r8] M7 _
      refine q_istore_n (pc := 36) [some (.ref 0), some (.int r5), some (.int r8)] k67_36 rfl (by decide) rfl ?_
      refine q_iload_n (pc := 37) k67_37 rfl ?_
      refine q_if_lt (pc := 38) 46 k67_38 (by decide) (fun g9 => ?_) (fun g9 => ?_)
      · replace h := h.1 g9
        refine q_aload_n (pc := 46) k67_46 rfl ?_
        refine q_getR (pc := 47) k67_47 fg67_26 rfl rfl ?_
        refine q_invV (pc := 50) (As := []) (st := []) k67_50 lm67_245 ov10 rfl rfl rfl (q_cat rfl) (Nat.le_of_ble_eq_true rfl) hd h ?_
        rintro v M10 ⟨r11, rfl, h⟩
        show q_Ex X d 67 (50 + 3) [some (.ref 0), some (.int r5), some (.int r8)] [.int r11] M10 _
        exact q_ireturn (pc := 53) k67_53 rfl ⟨_, rfl, h⟩
      · replace h := h.2 g9
        refine q_bipush (pc := 41) (v := 100) k67_41 (by decide) ?_
        refine q_iload_n (pc := 43) k67_43 rfl ?_
        refine q_iadd (pc := 44) k67_44 ?_
        exact q_ireturn (pc := 45) k67_45 rfl ⟨_, rfl, h⟩
    · replace h := h.2 g6
      refine q_sipush (pc := 26) (v := 1000) k67_26 (by decide) ?_
      refine q_iload_n (pc := 29) k67_29 rfl ?_
      refine q_iadd (pc := 30) k67_30 ?_
      exact q_ireturn (pc := 31) k67_31 rfl ⟨_, rfl, h⟩
  · replace h := h.2 g3
    refine q_aload_n (pc := 7) k67_7 rfl ?_
    refine q_bipush (pc := 8) (v := (-3)) k67_8 (by decide) ?_
    refine q_invV (pc := 10) (As := [.int (-3)]) (st := []) k67_10 lm67_100 ov72 rfl rfl rfl (q_cat rfl) (Nat.le_of_ble_eq_true rfl) hd h ?_
    rintro v M12 ⟨r13, rfl, h⟩
    show q_Ex X d 67 (10 + 3) [some (.ref 0), none, none] [.int r13] M12 _
    exact q_ireturn (pc := 13) k67_13 rfl ⟨_, rfl, h⟩
set_option maxRecDepth 20000 in
theorem vc68 {X : Nat × (Nat → Int32)} {d : Nat} (hd : 0 < d) {M : q_M} {K : Int32 → q_M → Prop} (h : q_Ci X (d - 1) 5 [.ref 10] M (fun r2 M1 => K r2 M1)) : q_Ci X d 68 [.ref 0] M K := by
  show q_Ex X d 68 0 [some (.ref 0)] [] M (q_ri K)
  refine q_aload_n (pc := 0) k68_0 rfl ?_
  refine q_getR (pc := 1) k68_1 fg68_26 rfl rfl ?_
  refine q_invV (pc := 4) (As := []) (st := []) k68_4 lm68_248 ov5 rfl rfl rfl (q_cat rfl) (Nat.le_of_ble_eq_true rfl) hd h ?_
  rintro v M1 ⟨r2, rfl, h⟩
  show q_Ex X d 68 (4 + 3) [some (.ref 0)] [.int r2] M1 _
  exact q_ireturn (pc := 7) k68_7 rfl ⟨_, rfl, h⟩
set_option maxRecDepth 20000 in
theorem vc69 {X : Nat × (Nat → Int32)} {d : Nat} (hd : 0 < d) {M : q_M} {K : Int32 → q_M → Prop} (h : q_Cv X (d - 1) 3 [.ref 24, .ref 10] M (fun M1 => K (M1 11 2) (q_set M1 0 6 1))) : q_Ci X d 69 [.ref 0] M K := by
  show q_Ex X d 69 0 [some (.ref 0)] [] M (q_ri K)
  refine q_aload_n (pc := 0) k69_0 rfl ?_
  refine q_getR (pc := 1) k69_1 fg69_30 rfl rfl ?_
  refine q_aload_n (pc := 4) k69_4 rfl ?_
  refine q_getR (pc := 5) k69_5 fg69_26 rfl rfl ?_
  refine q_invV (pc := 8) (As := [.ref 10]) (st := []) k69_8 lm69_251 ov3 rfl rfl rfl (q_cat rfl) (Nat.le_of_ble_eq_true rfl) hd h ?_
  rintro v M1 ⟨rfl, h⟩
  show q_Ex X d 69 (8 + 3) [some (.ref 0)] [] M1 _
  refine q_aload_n (pc := 11) k69_11 rfl ?_
  refine q_iconst (pc := 12) (v := 1) k69_12 (by decide) ?_
  refine q_putZ (pc := 13) k69_13 fp69_255 rfl rfl (by decide) ?_
  refine q_aload_n (pc := 16) k69_16 rfl ?_
  refine q_getR (pc := 17) k69_17 fg69_26 rfl rfl ?_
  refine q_getR (pc := 20) k69_20 fg69_63 rfl rfl ?_
  refine q_getIv (pc := 23) (v := M1 11 2) k69_23 fg69_118 rfl rfl rfl ?_
  exact q_ireturn (pc := 26) k69_26 rfl ⟨_, rfl, h⟩
set_option maxRecDepth 20000 in
theorem vc70 {X : Nat × (Nat → Int32)} {d : Nat} (hd : 0 < d) {M : q_M} {K : Int32 → q_M → Prop} (h : ((¬ (M 0 6) = 0) → (q_Cv X (d - 1) 3 [.ref 10, .ref 24] M (fun M2 => K (M2 11 2) (q_set M2 0 16 (-1))))) ∧ (((M 0 6) = 0) → (q_Ci X (d - 1) 72 [.ref 0, .int (-3)] M (fun r4 M3 => K r4 M3)))) : q_Ci X d 70 [.ref 0] M K := by
  show q_Ex X d 70 0 [some (.ref 0)] [] M (q_ri K)
  refine q_aload_n (pc := 0) k70_0 rfl ?_
  refine q_getIv (pc := 1) (v := M 0 6) k70_1 fg70_255 rfl rfl rfl ?_
  refine q_if_ne (pc := 4) 14 k70_4 (by decide) (fun g1 => ?_) (fun g1 => ?_)
  · replace h := h.1 g1
    refine q_aload_n (pc := 14) k70_14 rfl ?_
    refine q_getR (pc := 15) k70_15 fg70_26 rfl rfl ?_
    refine q_aload_n (pc := 18) k70_18 rfl ?_
    refine q_getR (pc := 19) k70_19 fg70_30 rfl rfl ?_
    refine q_invV (pc := 22) (As := [.ref 24]) (st := []) k70_22 lm70_251 ov3 rfl rfl rfl (q_cat rfl) (Nat.le_of_ble_eq_true rfl) hd h ?_
    rintro v M2 ⟨rfl, h⟩
    show q_Ex X d 70 (22 + 3) [some (.ref 0)] [] M2 _
    refine q_aload_n (pc := 25) k70_25 rfl ?_
    refine q_iconst (pc := 26) (v := (-1)) k70_26 (by decide) ?_
    refine q_putI (pc := 27) k70_27 fp70_58 rfl rfl ?_
    refine q_aload_n (pc := 30) k70_30 rfl ?_
    refine q_getR (pc := 31) k70_31 fg70_26 rfl rfl ?_
    refine q_getR (pc := 34) k70_34 fg70_63 rfl rfl ?_
    refine q_getIv (pc := 37) (v := M2 11 2) k70_37 fg70_118 rfl rfl rfl ?_
    exact q_ireturn (pc := 40) k70_40 rfl ⟨_, rfl, h⟩
  · replace h := h.2 g1
    refine q_aload_n (pc := 7) k70_7 rfl ?_
    refine q_bipush (pc := 8) (v := (-3)) k70_8 (by decide) ?_
    refine q_invV (pc := 10) (As := [.int (-3)]) (st := []) k70_10 lm70_100 ov72 rfl rfl rfl (q_cat rfl) (Nat.le_of_ble_eq_true rfl) hd h ?_
    rintro v M3 ⟨r4, rfl, h⟩
    show q_Ex X d 70 (10 + 3) [some (.ref 0)] [.int r4] M3 _
    exact q_ireturn (pc := 13) k70_13 rfl ⟨_, rfl, h⟩
set_option maxRecDepth 20000 in
theorem vc71 {X : Nat × (Nat → Int32)} {d : Nat} {M : q_M} {a1 : Int32} {K : Int32 → q_M → Prop} (h : (a1 = 0 → (K (M 11 0) M)) ∧ (a1 = 1 → (K (M 11 1) M)) ∧ (a1 = 2 → (K (M 11 4) M)) ∧ (a1 = 3 → (K (M 11 3) M)) ∧ (a1 = 4 → (K (M 10 4) M)) ∧ (a1 = 5 → (K (M 0 1) M)) ∧ (a1 = 6 → (K (M 10 2) M)) ∧ (a1 = 7 → (K (M 10 3) M)) ∧ ((¬ a1 = 0 ∧ ¬ a1 = 1 ∧ ¬ a1 = 2 ∧ ¬ a1 = 3 ∧ ¬ a1 = 4 ∧ ¬ a1 = 5 ∧ ¬ a1 = 6 ∧ ¬ a1 = 7) → (((a1 < 11) → (K (-9) M)) ∧ ((¬ a1 < 11) → (((16 < a1) → (K (-9) M)) ∧ ((¬ 16 < a1) → (vp_in (a1 - 10) 7 ∧ (K (M 2 (Int32.toNatClampNeg (a1 - 10))) M)))))))) : q_Ci X d 71 [.ref 0, .int a1] M K := by
  show q_Ex X d 71 0 [some (.ref 0), some (.int a1)] [] M (q_ri K)
  refine q_iload_n (pc := 0) k71_0 rfl ?_
  obtain ⟨e0, e1, e2, e3, e4, e5, e6, e7, e999⟩ := h
  by_cases g0 : a1 = 0
  · have h := e0 g0
    refine q_tsIn (pc := 1) 48 k71_1 (off := 47) (by rw [g0]; decide) (by rw [g0]; decide) (by rw [g0]; rfl) (by decide) ?_
    refine q_aload_n (pc := 48) k71_48 rfl ?_
    refine q_getR (pc := 49) k71_49 fg71_26 rfl rfl ?_
    refine q_getR (pc := 52) k71_52 fg71_63 rfl rfl ?_
    refine q_getIv (pc := 55) (v := M 11 0) k71_55 fg71_259 rfl rfl rfl ?_
    exact q_ireturn (pc := 58) k71_58 rfl ⟨_, rfl, h⟩
  by_cases g1 : a1 = 1
  · have h := e1 g1
    refine q_tsIn (pc := 1) 59 k71_1 (off := 58) (by rw [g1]; decide) (by rw [g1]; decide) (by rw [g1]; rfl) (by decide) ?_
    refine q_aload_n (pc := 59) k71_59 rfl ?_
    refine q_getR (pc := 60) k71_60 fg71_26 rfl rfl ?_
    refine q_getR (pc := 63) k71_63 fg71_63 rfl rfl ?_
    refine q_getIv (pc := 66) (v := M 11 1) k71_66 fg71_262 rfl rfl rfl ?_
    exact q_ireturn (pc := 69) k71_69 rfl ⟨_, rfl, h⟩
  by_cases g2 : a1 = 2
  · have h := e2 g2
    refine q_tsIn (pc := 1) 70 k71_1 (off := 69) (by rw [g2]; decide) (by rw [g2]; decide) (by rw [g2]; rfl) (by decide) ?_
    refine q_aload_n (pc := 70) k71_70 rfl ?_
    refine q_getR (pc := 71) k71_71 fg71_26 rfl rfl ?_
    refine q_getR (pc := 74) k71_74 fg71_63 rfl rfl ?_
    refine q_getIv (pc := 77) (v := M 11 4) k71_77 fg71_141 rfl rfl rfl ?_
    exact q_ireturn (pc := 80) k71_80 rfl ⟨_, rfl, h⟩
  by_cases g3 : a1 = 3
  · have h := e3 g3
    refine q_tsIn (pc := 1) 81 k71_1 (off := 80) (by rw [g3]; decide) (by rw [g3]; decide) (by rw [g3]; rfl) (by decide) ?_
    refine q_aload_n (pc := 81) k71_81 rfl ?_
    refine q_getR (pc := 82) k71_82 fg71_26 rfl rfl ?_
    refine q_getR (pc := 85) k71_85 fg71_63 rfl rfl ?_
    refine q_getIv (pc := 88) (v := M 11 3) k71_88 fg71_265 rfl rfl rfl ?_
    exact q_ireturn (pc := 91) k71_91 rfl ⟨_, rfl, h⟩
  by_cases g4 : a1 = 4
  · have h := e4 g4
    refine q_tsIn (pc := 1) 92 k71_1 (off := 91) (by rw [g4]; decide) (by rw [g4]; decide) (by rw [g4]; rfl) (by decide) ?_
    refine q_aload_n (pc := 92) k71_92 rfl ?_
    refine q_getR (pc := 93) k71_93 fg71_26 rfl rfl ?_
    refine q_getIv (pc := 96) (v := M 10 4) k71_96 fg71_203 rfl rfl rfl ?_
    exact q_ireturn (pc := 99) k71_99 rfl ⟨_, rfl, h⟩
  by_cases g5 : a1 = 5
  · have h := e5 g5
    refine q_tsIn (pc := 1) 100 k71_1 (off := 99) (by rw [g5]; decide) (by rw [g5]; decide) (by rw [g5]; rfl) (by decide) ?_
    refine q_aload_n (pc := 100) k71_100 rfl ?_
    refine q_getIv (pc := 101) (v := M 0 1) k71_101 fg71_104 rfl rfl rfl ?_
    exact q_ireturn (pc := 104) k71_104 rfl ⟨_, rfl, h⟩
  by_cases g6 : a1 = 6
  · have h := e6 g6
    refine q_tsIn (pc := 1) 105 k71_1 (off := 104) (by rw [g6]; decide) (by rw [g6]; decide) (by rw [g6]; rfl) (by decide) ?_
    refine q_aload_n (pc := 105) k71_105 rfl ?_
    refine q_getR (pc := 106) k71_106 fg71_26 rfl rfl ?_
    refine q_getIv (pc := 109) (v := M 10 2) k71_109 fg71_134 rfl rfl rfl ?_
    exact q_ireturn (pc := 112) k71_112 rfl ⟨_, rfl, h⟩
  by_cases g7 : a1 = 7
  · have h := e7 g7
    refine q_tsIn (pc := 1) 113 k71_1 (off := 112) (by rw [g7]; decide) (by rw [g7]; decide) (by rw [g7]; rfl) (by decide) ?_
    refine q_aload_n (pc := 113) k71_113 rfl ?_
    refine q_getR (pc := 114) k71_114 fg71_26 rfl rfl ?_
    refine q_getIv (pc := 117) (v := M 10 3) k71_117 fg71_148 rfl rfl rfl ?_
    exact q_ireturn (pc := 120) k71_120 rfl ⟨_, rfl, h⟩
  have h := e999 ⟨g0, g1, g2, g3, g4, g5, g6, g7⟩
  refine q_tsOut (pc := 1) 121 k71_1 (by have i0 := lv_neT g0 (a := 0) rfl; have i1 := lv_neT g1 (a := 1) rfl; have i2 := lv_neT g2 (a := 2) rfl; have i3 := lv_neT g3 (a := 3) rfl; have i4 := lv_neT g4 (a := 4) rfl; have i5 := lv_neT g5 (a := 5) rfl; have i6 := lv_neT g6 (a := 6) rfl; have i7 := lv_neT g7 (a := 7) rfl; omega) (by decide) ?_
  refine q_iload_n (pc := 121) k71_121 rfl ?_
  refine q_bipush (pc := 122) (v := 11) k71_122 (by decide) ?_
  refine q_icmp_lt (pc := 124) 145 k71_124 (by decide) (fun g1 => ?_) (fun g1 => ?_)
  · replace h := h.1 g1
    refine q_bipush (pc := 145) (v := (-9)) k71_145 (by decide) ?_
    exact q_ireturn (pc := 147) k71_147 rfl ⟨_, rfl, h⟩
  · replace h := h.2 g1
    refine q_iload_n (pc := 127) k71_127 rfl ?_
    refine q_bipush (pc := 128) (v := 16) k71_128 (by decide) ?_
    refine q_icmp_gt (pc := 130) 145 k71_130 (by decide) (fun g2 => ?_) (fun g2 => ?_)
    · replace h := h.1 g2
      refine q_bipush (pc := 145) (v := (-9)) k71_145 (by decide) ?_
      exact q_ireturn (pc := 147) k71_147 rfl ⟨_, rfl, h⟩
    · replace h := h.2 g2
      refine q_aload_n (pc := 133) k71_133 rfl ?_
      refine q_getR (pc := 134) k71_134 fg71_13 rfl rfl ?_
      refine q_iload_n (pc := 137) k71_137 rfl ?_
      refine q_bipush (pc := 138) (v := 10) k71_138 (by decide) ?_
      refine q_isub (pc := 140) k71_140 ?_
      refine q_ialdv (pc := 141) (v := M 2 (Int32.toNatClampNeg (a1 - 10))) k71_141 rfl h.1 rfl ?_
      replace h := h.2
      refine q_goto (pc := 142) 147 k71_142 (by decide) ?_
      exact q_ireturn (pc := 147) k71_147 rfl ⟨_, rfl, h⟩
set_option maxRecDepth 20000 in
theorem vc72 {X : Nat × (Nat → Int32)} {d : Nat} {M : q_M} {a1 : Int32} {K : Int32 → q_M → Prop} (h : (((-a1) ≤ 0) → (K a1 M)) ∧ ((¬ (-a1) ≤ 0) → (((7 ≤ (-a1)) → (K a1 M)) ∧ ((¬ 7 ≤ (-a1)) → (vp_in (-a1) 7 ∧ (vp_in (-a1) 7 ∧ (K a1 (q_set M 2 (Int32.toNatClampNeg (-a1)) ((M 2 (Int32.toNatClampNeg (-a1))) + 1))))))))) : q_Ci X d 72 [.ref 0, .int a1] M K := by
  show q_Ex X d 72 0 [some (.ref 0), some (.int a1), none] [] M (q_ri K)
  refine q_iload_n (pc := 0) k72_0 rfl ?_
  refine q_ineg (pc := 1) k72_1 ?_
  refine q_istore_n (pc := 2) [some (.ref 0), some (.int a1), some (.int (-a1))] k72_2 rfl (by decide) rfl ?_
  refine q_iload_n (pc := 3) k72_3 rfl ?_
  refine q_if_le (pc := 4) 26 k72_4 (by decide) (fun g1 => ?_) (fun g1 => ?_)
  · replace h := h.1 g1
    refine q_iload_n (pc := 26) k72_26 rfl ?_
    exact q_ireturn (pc := 27) k72_27 rfl ⟨_, rfl, h⟩
  · replace h := h.2 g1
    refine q_iload_n (pc := 7) k72_7 rfl ?_
    refine q_aload_n (pc := 8) k72_8 rfl ?_
    refine q_getR (pc := 9) k72_9 fg72_13 rfl rfl ?_
    refine q_alen (pc := 12) (v := 7) k72_12 rfl rfl ?_
    refine q_icmp_ge (pc := 13) 26 k72_13 (by decide) (fun g2 => ?_) (fun g2 => ?_)
    · replace h := h.1 g2
      refine q_iload_n (pc := 26) k72_26 rfl ?_
      exact q_ireturn (pc := 27) k72_27 rfl ⟨_, rfl, h⟩
    · replace h := h.2 g2
      refine q_aload_n (pc := 16) k72_16 rfl ?_
      refine q_getR (pc := 17) k72_17 fg72_13 rfl rfl ?_
      refine q_iload_n (pc := 20) k72_20 rfl ?_
      refine q_dup2 (pc := 21) k72_21 rfl rfl ?_
      refine q_ialdv (pc := 22) (v := M 2 (Int32.toNatClampNeg (-a1))) k72_22 rfl h.1 rfl ?_
      replace h := h.2
      refine q_iconst (pc := 23) (v := 1) k72_23 (by decide) ?_
      refine q_iadd (pc := 24) k72_24 ?_
      refine q_iastv (pc := 25) (k := (Int32.toNatClampNeg (-a1))) k72_25 rfl h.1 rfl ?_
      replace h := h.2
      refine q_iload_n (pc := 26) k72_26 rfl ?_
      exact q_ireturn (pc := 27) k72_27 rfl ⟨_, rfl, h⟩
set_option maxRecDepth 20000 in
theorem vc73 {X : Nat × (Nat → Int32)} {d : Nat} {M : q_M} {K : Int32 → q_M → Prop} (h : (((M 11 2) ≤ 0) → (K 0 M)) ∧ ((¬ (M 11 2) ≤ 0) → (K 1 M))) : q_Ci X d 73 [.ref 0] M K := by
  show q_Ex X d 73 0 [some (.ref 0)] [] M (q_ri K)
  refine q_aload_n (pc := 0) k73_0 rfl ?_
  refine q_getR (pc := 1) k73_1 fg73_26 rfl rfl ?_
  refine q_getR (pc := 4) k73_4 fg73_63 rfl rfl ?_
  refine q_getIv (pc := 7) (v := M 11 2) k73_7 fg73_118 rfl rfl rfl ?_
  refine q_if_le (pc := 10) 17 k73_10 (by decide) (fun g1 => ?_) (fun g1 => ?_)
  · replace h := h.1 g1
    refine q_iconst (pc := 17) (v := 0) k73_17 (by decide) ?_
    exact q_zreturn (pc := 18) k73_18 rfl (by decide) ⟨_, rfl, h⟩
  · replace h := h.2 g1
    refine q_iconst (pc := 13) (v := 1) k73_13 (by decide) ?_
    refine q_goto (pc := 14) 18 k73_14 (by decide) ?_
    exact q_zreturn (pc := 18) k73_18 rfl (by decide) ⟨_, rfl, h⟩
set_option maxRecDepth 20000 in
theorem vc74 {X : Nat × (Nat → Int32)} {d : Nat} (hd : 0 < d) {M : q_M} {K : Nat → q_M → Prop} (h : (((M 0 15) = (M 10 1)) → (K 64 M)) ∧ ((¬ (M 0 15) = (M 10 1)) → (q_Cv X (d - 1) 41 [.ref 44, .int (M 11 4)] M (fun M2 => q_Cv X (d - 1) 30 [.ref 64] M2 (fun M3 => K 64 (q_set M3 0 15 (M3 10 1))))))) : q_Cr X d 74 [.ref 0] M K := by
  show q_Ex X d 74 0 [some (.ref 0)] [] M (q_rr K)
  refine q_aload_n (pc := 0) k74_0 rfl ?_
  refine q_getIv (pc := 1) (v := M 0 15) k74_1 fg74_54 rfl rfl rfl ?_
  refine q_aload_n (pc := 4) k74_4 rfl ?_
  refine q_getR (pc := 5) k74_5 fg74_26 rfl rfl ?_
  refine q_getIv (pc := 8) (v := M 10 1) k74_8 fg74_268 rfl rfl rfl ?_
  refine q_icmp_eq (pc := 11) 49 k74_11 (by decide) (fun g1 => ?_) (fun g1 => ?_)
  · replace h := h.1 g1
    refine q_aload_n (pc := 49) k74_49 rfl ?_
    refine q_getR (pc := 50) k74_50 fg74_81 rfl rfl ?_
    exact q_areturn (pc := 53) k74_53 rfl ⟨_, rfl, h⟩
  · replace h := h.2 g1
    refine q_aload_n (pc := 14) k74_14 rfl ?_
    refine q_getR (pc := 15) k74_15 fg74_69 rfl rfl ?_
    refine q_aload_n (pc := 18) k74_18 rfl ?_
    refine q_getR (pc := 19) k74_19 fg74_26 rfl rfl ?_
    refine q_getR (pc := 22) k74_22 fg74_63 rfl rfl ?_
    refine q_getIv (pc := 25) (v := M 11 4) k74_25 fg74_141 rfl rfl rfl ?_
    refine q_invV (pc := 28) (As := [.int (M 11 4)]) (st := []) k74_28 lm74_224 ov41 rfl rfl rfl (q_cat rfl) (Nat.le_of_ble_eq_true rfl) hd h ?_
    rintro v M2 ⟨rfl, h⟩
    show q_Ex X d 74 (28 + 3) [some (.ref 0)] [] M2 _
    refine q_aload_n (pc := 31) k74_31 rfl ?_
    refine q_getR (pc := 32) k74_32 fg74_81 rfl rfl ?_
    refine q_invV (pc := 35) (As := []) (st := []) k74_35 lm74_271 ov30 rfl rfl rfl (q_cat rfl) (Nat.le_of_ble_eq_true rfl) hd h ?_
    rintro v M3 ⟨rfl, h⟩
    show q_Ex X d 74 (35 + 3) [some (.ref 0)] [] M3 _
    refine q_aload_n (pc := 38) k74_38 rfl ?_
    refine q_aload_n (pc := 39) k74_39 rfl ?_
    refine q_getR (pc := 40) k74_40 fg74_26 rfl rfl ?_
    refine q_getIv (pc := 43) (v := M3 10 1) k74_43 fg74_268 rfl rfl rfl ?_
    refine q_putI (pc := 46) k74_46 fp74_54 rfl rfl ?_
    refine q_aload_n (pc := 49) k74_49 rfl ?_
    refine q_getR (pc := 50) k74_50 fg74_81 rfl rfl ?_
    exact q_areturn (pc := 53) k74_53 rfl ⟨_, rfl, h⟩
set_option maxRecDepth 20000 in
theorem vc75 {X : Nat × (Nat → Int32)} {d : Nat} {M : q_M} {K : Nat → q_M → Prop} (h : (((M 10 2) < 0) → (K 39 M)) ∧ ((¬ (M 10 2) < 0) → (((5 ≤ (M 10 2)) → (K 39 M)) ∧ ((¬ 5 ≤ (M 10 2)) → (vp_in (M 10 2) 5 ∧ (K (39 + Int32.toNatClampNeg (M 10 2)) M)))))) : q_Cr X d 75 [.ref 0] M K := by
  show q_Ex X d 75 0 [some (.ref 0)] [] M (q_rr K)
  refine q_aload_n (pc := 0) k75_0 rfl ?_
  refine q_getR (pc := 1) k75_1 fg75_26 rfl rfl ?_
  refine q_getIv (pc := 4) (v := M 10 2) k75_4 fg75_134 rfl rfl rfl ?_
  refine q_if_lt (pc := 7) 40 k75_7 (by decide) (fun g1 => ?_) (fun g1 => ?_)
  · replace h := h.1 g1
    refine q_aload_n (pc := 40) k75_40 rfl ?_
    refine q_getR (pc := 41) k75_41 fg75_50 rfl rfl ?_
    refine q_iconst (pc := 44) (v := 0) k75_44 (by decide) ?_
    refine q_aaldv (pc := 45) (t := 39) k75_45 rfl (q_vin (by decide)) rfl ?_
    exact q_areturn (pc := 46) k75_46 rfl ⟨_, rfl, h⟩
  · replace h := h.2 g1
    refine q_aload_n (pc := 10) k75_10 rfl ?_
    refine q_getR (pc := 11) k75_11 fg75_26 rfl rfl ?_
    refine q_getIv (pc := 14) (v := M 10 2) k75_14 fg75_134 rfl rfl rfl ?_
    refine q_aload_n (pc := 17) k75_17 rfl ?_
    refine q_getR (pc := 18) k75_18 fg75_50 rfl rfl ?_
    refine q_alenR (pc := 21) (v := 5) k75_21 rfl rfl ?_
    refine q_icmp_ge (pc := 22) 40 k75_22 (by decide) (fun g2 => ?_) (fun g2 => ?_)
    · replace h := h.1 g2
      refine q_aload_n (pc := 40) k75_40 rfl ?_
      refine q_getR (pc := 41) k75_41 fg75_50 rfl rfl ?_
      refine q_iconst (pc := 44) (v := 0) k75_44 (by decide) ?_
      refine q_aaldv (pc := 45) (t := 39) k75_45 rfl (q_vin (by decide)) rfl ?_
      exact q_areturn (pc := 46) k75_46 rfl ⟨_, rfl, h⟩
    · replace h := h.2 g2
      refine q_aload_n (pc := 25) k75_25 rfl ?_
      refine q_getR (pc := 26) k75_26 fg75_50 rfl rfl ?_
      refine q_aload_n (pc := 29) k75_29 rfl ?_
      refine q_getR (pc := 30) k75_30 fg75_26 rfl rfl ?_
      refine q_getIv (pc := 33) (v := M 10 2) k75_33 fg75_134 rfl rfl rfl ?_
      have w3 := h.1
      replace h := h.2
      refine q_aald (pc := 36) k75_36 rfl w3 ?_
      refine q_goto (pc := 37) 46 k75_37 (by decide) ?_
      exact q_areturn (pc := 46) k75_46 rfl ⟨_, rfl, h⟩
set_option maxRecDepth 20000 in
theorem vc76 {X : Nat × (Nat → Int32)} {d : Nat} (hd : 0 < d) {M : q_M} {K : Int32 → q_M → Prop} (h : q_Cr X (d - 1) 75 [.ref 0] M (fun r2 M1 => q_Ci X (d - 1) 85 [.int (M 11 4)] M1 (fun r4 M3 => q_Ex X d 76 24 [some (.ref 0), some (.int (M 11 4)), some (.ref r2), some (.int 0), some (.int r4)] [] M3 (q_ri K)))) : q_Ci X d 76 [.ref 0] M K := by
  show q_Ex X d 76 0 [some (.ref 0), none, none, none, none] [] M (q_ri K)
  refine q_aload_n (pc := 0) k76_0 rfl ?_
  refine q_getR (pc := 1) k76_1 fg76_26 rfl rfl ?_
  refine q_getR (pc := 4) k76_4 fg76_63 rfl rfl ?_
  refine q_getIv (pc := 7) (v := M 11 4) k76_7 fg76_141 rfl rfl rfl ?_
  refine q_istore_n (pc := 10) [some (.ref 0), some (.int (M 11 4)), none, none, none] k76_10 rfl (by decide) rfl ?_
  refine q_aload_n (pc := 11) k76_11 rfl ?_
  refine q_invV (pc := 12) (As := []) (st := []) k76_12 lm76_212 ov75 rfl rfl rfl (q_cat rfl) (Nat.le_of_ble_eq_true rfl) hd h ?_
  rintro v M1 ⟨r2, rfl, h⟩
  show q_Ex X d 76 (12 + 3) [some (.ref 0), some (.int (M 11 4)), none, none, none] [.ref r2] M1 _
  refine q_astore_n (pc := 15) [some (.ref 0), some (.int (M 11 4)), some (.ref r2), none, none] k76_15 rfl (by decide) rfl ?_
  refine q_iconst (pc := 16) (v := 0) k76_16 (by decide) ?_
  refine q_istore_n (pc := 17) [some (.ref 0), some (.int (M 11 4)), some (.ref r2), some (.int 0), none] k76_17 rfl (by decide) rfl ?_
  refine q_iload_n (pc := 18) k76_18 rfl ?_
  refine q_invS (pc := 19) (As := [.int (M 11 4)]) (st := []) k76_19 lm76_165 os85 rfl rfl (q_cat rfl) (Nat.le_of_ble_eq_true rfl) hd h ?_
  rintro v M3 ⟨r4, rfl, h⟩
  show q_Ex X d 76 (19 + 3) [some (.ref 0), some (.int (M 11 4)), some (.ref r2), some (.int 0), none] [.int r4] M3 _
  refine q_istore (pc := 22) [some (.ref 0), some (.int (M 11 4)), some (.ref r2), some (.int 0), some (.int r4)] k76_22 rfl (by decide) rfl ?_
  exact h
set_option maxRecDepth 20000 in
theorem vc76_p24 {X : Nat × (Nat → Int32)} {d : Nat} (hd : 0 < d) {M : q_M} {a1 a3 a4 : Int32} {rb2 : Nat} {K : Int32 → q_M → Prop} (h : q_Ci X (d - 1) 86 [.int a1] M (fun r2 M1 => ((r2 ≤ a4) → (K a3 M1)) ∧ ((¬ r2 ≤ a4) → (vp_in a4 9 ∧ (q_CV X (d - 1) 76 277 rb2 [.int ((q_rc X 0).2 (Int32.toNatClampNeg a4)), .int a1, .int (M1 10 3)] M1 (fun r4 M5 => ((r4 = 0) → (q_Ex X d 76 24 [some (.ref 0), some (.int a1), some (.ref rb2), some (.int a3), some (.int (a4 + 1))] [] M5 (q_ri K))) ∧ ((¬ r4 = 0) → (q_Ex X d 76 24 [some (.ref 0), some (.int a1), some (.ref rb2), some (.int (a3 ||| ((1 : Int32) <<< (a4 &&& 31)))), some (.int (a4 + 1))] [] M5 (q_ri K))))))))) : q_Ex X d 76 24 [some (.ref 0), some (.int a1), some (.ref rb2), some (.int a3), some (.int a4)] [] M (q_ri K) := by
  refine q_iload (pc := 24) k76_24 rfl ?_
  refine q_iload_n (pc := 26) k76_26 rfl ?_
  refine q_invS (pc := 27) (As := [.int a1]) (st := [.int a4]) k76_27 lm76_168 os86 rfl rfl (q_cat rfl) (Nat.le_of_ble_eq_true rfl) hd h ?_
  rintro v M1 ⟨r2, rfl, h⟩
  show q_Ex X d 76 (27 + 3) [some (.ref 0), some (.int a1), some (.ref rb2), some (.int a3), some (.int a4)] [.int r2, .int a4] M1 _
  refine q_icmp_ge (pc := 30) 67 k76_30 (by decide) (fun g3 => ?_) (fun g3 => ?_)
  · replace h := h.1 g3
    refine q_iload_n (pc := 67) k76_67 rfl ?_
    exact q_ireturn (pc := 68) k76_68 rfl ⟨_, rfl, h⟩
  · replace h := h.2 g3
    refine q_aload_n (pc := 33) k76_33 rfl ?_
    refine q_gets (pc := 34) k76_34 (j := 0) (by decide) fs76_274 ?_
    refine q_iload (pc := 37) k76_37 rfl ?_
    refine q_raldv (pc := 39) (j := 0) (v := (q_rc X 0).2 (Int32.toNatClampNeg a4)) k76_39 (by decide) h.1 rfl ?_
    replace h := h.2
    refine q_iload_n (pc := 40) k76_40 rfl ?_
    refine q_aload_n (pc := 41) k76_41 rfl ?_
    refine q_getR (pc := 42) k76_42 fg76_26 rfl rfl ?_
    refine q_getIv (pc := 45) (v := M1 10 3) k76_45 fg76_148 rfl rfl rfl ?_
    refine q_invC (pc := 48) (As := [.int ((q_rc X 0).2 (Int32.toNatClampNeg a4)), .int a1, .int (M1 10 3)]) (st := []) k76_48 rfl (q_cat rfl) (Nat.le_of_ble_eq_true rfl) hd h (fun r4 M5 h => ?_)
    refine q_if_eq (pc := 51) 61 k76_51 (by decide) (fun g6 => ?_) (fun g6 => ?_)
    · replace h := h.1 g6
      refine q_iinc (pc := 61) (v := a4 + 1) [some (.ref 0), some (.int a1), some (.ref rb2), some (.int a3), some (.int (a4 + 1))] k76_61 rfl rfl rfl (by decide) rfl ?_
      refine q_goto (pc := 64) 24 k76_64 (by decide) ?_
      exact h
    · replace h := h.2 g6
      refine q_iload_n (pc := 54) k76_54 rfl ?_
      refine q_iconst (pc := 55) (v := 1) k76_55 (by decide) ?_
      refine q_iload (pc := 56) k76_56 rfl ?_
      refine q_ishl (pc := 58) k76_58 ?_
      refine q_ior (pc := 59) k76_59 ?_
      refine q_istore_n (pc := 60) [some (.ref 0), some (.int a1), some (.ref rb2), some (.int (a3 ||| ((1 : Int32) <<< (a4 &&& 31)))), some (.int a4)] k76_60 rfl (by decide) rfl ?_
      refine q_iinc (pc := 61) (v := a4 + 1) [some (.ref 0), some (.int a1), some (.ref rb2), some (.int (a3 ||| ((1 : Int32) <<< (a4 &&& 31)))), some (.int (a4 + 1))] k76_61 rfl rfl rfl (by decide) rfl ?_
      refine q_goto (pc := 64) 24 k76_64 (by decide) ?_
      exact h
set_option maxRecDepth 20000 in
theorem vc77 {X : Nat × (Nat → Int32)} {d : Nat} (hd : 0 < d) {M : q_M} {K : Int32 → q_M → Prop} (h : q_Cr X (d - 1) 74 [.ref 0] M (fun r2 M1 => r2 = 64 ∧ (q_Ci X (d - 1) 76 [.ref 0] M1 (fun r4 M3 => q_Ci X (d - 1) 35 [.ref 64, .int r4] M3 (fun r6 M5 => K r6 M5))))) : q_Ci X d 77 [.ref 0] M K := by
  show q_Ex X d 77 0 [some (.ref 0)] [] M (q_ri K)
  refine q_aload_n (pc := 0) k77_0 rfl ?_
  refine q_invV (pc := 1) (As := []) (st := []) k77_1 lm77_171 ov74 rfl rfl rfl (q_cat rfl) (Nat.le_of_ble_eq_true rfl) hd h ?_
  rintro v M1 ⟨r2, rfl, rfl, h⟩
  show q_Ex X d 77 (1 + 3) [some (.ref 0)] [.ref 64] M1 _
  refine q_aload_n (pc := 4) k77_4 rfl ?_
  refine q_invV (pc := 5) (As := []) (st := [.ref 64]) k77_5 lm77_178 ov76 rfl rfl rfl (q_cat rfl) (Nat.le_of_ble_eq_true rfl) hd h ?_
  rintro v M3 ⟨r4, rfl, h⟩
  show q_Ex X d 77 (5 + 3) [some (.ref 0)] [.int r4, .ref 64] M3 _
  refine q_invV (pc := 8) (As := [.int r4]) (st := []) k77_8 lm77_175 ov35 rfl rfl rfl (q_cat rfl) (Nat.le_of_ble_eq_true rfl) hd h ?_
  rintro v M5 ⟨r6, rfl, h⟩
  show q_Ex X d 77 (8 + 3) [some (.ref 0)] [.int r6] M5 _
  exact q_ireturn (pc := 11) k77_11 rfl ⟨_, rfl, h⟩
set_option maxRecDepth 20000 in
theorem vc78 {X : Nat × (Nat → Int32)} {d : Nat} (hd : 0 < d) {M : q_M} {a1 : Int32} {K : Int32 → q_M → Prop} (h : q_Cr X (d - 1) 74 [.ref 0] M (fun r2 M1 => r2 = 64 ∧ (q_Ci X (d - 1) 76 [.ref 0] M1 (fun r4 M3 => q_Ci X (d - 1) 37 [.ref 64, .int a1, .int r4] M3 (fun r6 M5 => K r6 M5))))) : q_Ci X d 78 [.ref 0, .int a1] M K := by
  show q_Ex X d 78 0 [some (.ref 0), some (.int a1)] [] M (q_ri K)
  refine q_aload_n (pc := 0) k78_0 rfl ?_
  refine q_invV (pc := 1) (As := []) (st := []) k78_1 lm78_171 ov74 rfl rfl rfl (q_cat rfl) (Nat.le_of_ble_eq_true rfl) hd h ?_
  rintro v M1 ⟨r2, rfl, rfl, h⟩
  show q_Ex X d 78 (1 + 3) [some (.ref 0), some (.int a1)] [.ref 64] M1 _
  refine q_iload_n (pc := 4) k78_4 rfl ?_
  refine q_aload_n (pc := 5) k78_5 rfl ?_
  refine q_invV (pc := 6) (As := []) (st := [.int a1, .ref 64]) k78_6 lm78_178 ov76 rfl rfl rfl (q_cat rfl) (Nat.le_of_ble_eq_true rfl) hd h ?_
  rintro v M3 ⟨r4, rfl, h⟩
  show q_Ex X d 78 (6 + 3) [some (.ref 0), some (.int a1)] [.int r4, .int a1, .ref 64] M3 _
  refine q_invV (pc := 9) (As := [.int a1, .int r4]) (st := []) k78_9 lm78_281 ov37 rfl rfl rfl (q_cat rfl) (Nat.le_of_ble_eq_true rfl) hd h ?_
  rintro v M5 ⟨r6, rfl, h⟩
  show q_Ex X d 78 (9 + 3) [some (.ref 0), some (.int a1)] [.int r6] M5 _
  exact q_ireturn (pc := 12) k78_12 rfl ⟨_, rfl, h⟩
set_option maxRecDepth 20000 in
theorem vc79 {X : Nat × (Nat → Int32)} {d : Nat} {M : q_M} {a1 a2 : Int32} {K : Int32 → q_M → Prop} (h : ((a1 < (M 11 4)) → (q_Ex X d 79 24 [some (.ref 0), some (.int a1), some (.int a2), some (.int (M 11 4)), some (.int 0), some (.int 0), none] [] M (q_ri K))) ∧ ((¬ a1 < (M 11 4)) → (K 1 M))) : q_Ci X d 79 [.ref 0, .int a1, .int a2] M K := by
  show q_Ex X d 79 0 [some (.ref 0), some (.int a1), some (.int a2), none, none, none, none] [] M (q_ri K)
  refine q_aload_n (pc := 0) k79_0 rfl ?_
  refine q_getR (pc := 1) k79_1 fg79_26 rfl rfl ?_
  refine q_getR (pc := 4) k79_4 fg79_63 rfl rfl ?_
  refine q_getIv (pc := 7) (v := M 11 4) k79_7 fg79_141 rfl rfl rfl ?_
  refine q_istore_n (pc := 10) [some (.ref 0), some (.int a1), some (.int a2), some (.int (M 11 4)), none, none, none] k79_10 rfl (by decide) rfl ?_
  refine q_iload_n (pc := 11) k79_11 rfl ?_
  refine q_iload_n (pc := 12) k79_12 rfl ?_
  refine q_icmp_lt (pc := 13) 18 k79_13 (by decide) (fun g1 => ?_) (fun g1 => ?_)
  · replace h := h.1 g1
    refine q_iconst (pc := 18) (v := 0) k79_18 (by decide) ?_
    refine q_istore (pc := 19) [some (.ref 0), some (.int a1), some (.int a2), some (.int (M 11 4)), some (.int 0), none, none] k79_19 rfl (by decide) rfl ?_
    refine q_iconst (pc := 21) (v := 0) k79_21 (by decide) ?_
    refine q_istore (pc := 22) [some (.ref 0), some (.int a1), some (.int a2), some (.int (M 11 4)), some (.int 0), some (.int 0), none] k79_22 rfl (by decide) rfl ?_
    exact h
  · replace h := h.2 g1
    refine q_iconst (pc := 16) (v := 1) k79_16 (by decide) ?_
    exact q_ireturn (pc := 17) k79_17 rfl ⟨_, rfl, h⟩
set_option maxRecDepth 20000 in
theorem vc79_p24 {X : Nat × (Nat → Int32)} {d : Nat} (hd : 0 < d) {M : q_M} {a1 a2 a3 a4 a5 : Int32} {K : Int32 → q_M → Prop} (h : ((a3 ≤ a5) → (K a4 M)) ∧ ((¬ a3 ≤ a5) → (((¬ ((a2 >>> (a5 &&& 31)) &&& 1) = 0) → (q_Ex X d 79 24 [some (.ref 0), some (.int a1), some (.int a2), some (.int a3), some (.int a4), some (.int (a5 + 1)), none] [] M (q_ri K))) ∧ ((((a2 >>> (a5 &&& 31)) &&& 1) = 0) → (q_Ci X (d - 1) 155 [.int (a2 >>> ((a5 + 1) &&& 31))] M (fun r4 M3 => ((¬ (r4 &&& 1) = 0) → (q_Ci X (d - 1) 28 [.ref 11, .int a1, .int a5] M3 (fun r7 M6 => q_Ci X (d - 1) 79 [.ref 0, .int (a1 + 1), .int (a2 ||| ((1 : Int32) <<< (a5 &&& 31)))] M6 (fun r9 M8 => q_Ex X d 79 24 [some (.ref 0), some (.int a1), some (.int a2), some (.int a3), some (.int (a4 + ((((-1) : Int32) * r7) * r9))), some (.int (a5 + 1)), none] [] M8 (q_ri K))))) ∧ (((r4 &&& 1) = 0) → (q_Ci X (d - 1) 28 [.ref 11, .int a1, .int a5] M3 (fun r11 M10 => q_Ci X (d - 1) 79 [.ref 0, .int (a1 + 1), .int (a2 ||| ((1 : Int32) <<< (a5 &&& 31)))] M10 (fun r13 M12 => q_Ex X d 79 24 [some (.ref 0), some (.int a1), some (.int a2), some (.int a3), some (.int (a4 + (((1 : Int32) * r11) * r13))), some (.int (a5 + 1)), none] [] M12 (q_ri K))))))))))) : q_Ex X d 79 24 [some (.ref 0), some (.int a1), some (.int a2), some (.int a3), some (.int a4), some (.int a5), none] [] M (q_ri K) := by
  refine q_iload (pc := 24) k79_24 rfl ?_
  refine q_iload_n (pc := 26) k79_26 rfl ?_
  refine q_icmp_ge (pc := 27) 101 k79_27 (by decide) (fun g1 => ?_) (fun g1 => ?_)
  · replace h := h.1 g1
    refine q_iload (pc := 101) k79_101 rfl ?_
    exact q_ireturn (pc := 103) k79_103 rfl ⟨_, rfl, h⟩
  · replace h := h.2 g1
    refine q_iload_n (pc := 30) k79_30 rfl ?_
    refine q_iload (pc := 31) k79_31 rfl ?_
    refine q_ishr (pc := 33) k79_33 ?_
    refine q_iconst (pc := 34) (v := 1) k79_34 (by decide) ?_
    refine q_iand (pc := 35) k79_35 ?_
    refine q_if_ne (pc := 36) 95 k79_36 (by decide) (fun g2 => ?_) (fun g2 => ?_)
    · replace h := h.1 g2
      refine q_iinc (pc := 95) (v := a5 + 1) [some (.ref 0), some (.int a1), some (.int a2), some (.int a3), some (.int a4), some (.int (a5 + 1)), none] k79_95 rfl rfl rfl (by decide) rfl ?_
      refine q_goto (pc := 98) 24 k79_98 (by decide) ?_
      exact h
    · replace h := h.2 g2
      refine q_iload_n (pc := 39) k79_39 rfl ?_
      refine q_iload (pc := 40) k79_40 rfl ?_
      refine q_iconst (pc := 42) (v := 1) k79_42 (by decide) ?_
      refine q_iadd (pc := 43) k79_43 ?_
      refine q_ishr (pc := 44) k79_44 ?_
      refine q_invS (pc := 45) (As := [.int (a2 >>> ((a5 + 1) &&& 31))]) (st := []) k79_45 lm79_283 os155 rfl rfl (q_cat rfl) (Nat.le_of_ble_eq_true rfl) hd h ?_
      rintro v M3 ⟨r4, rfl, h⟩
      show q_Ex X d 79 (45 + 3) [some (.ref 0), some (.int a1), some (.int a2), some (.int a3), some (.int a4), some (.int a5), none] [.int r4] M3 _
      refine q_iconst (pc := 48) (v := 1) k79_48 (by decide) ?_
      refine q_iand (pc := 49) k79_49 ?_
      refine q_if_ne (pc := 50) 57 k79_50 (by decide) (fun g5 => ?_) (fun g5 => ?_)
      · replace h := h.1 g5
        refine q_iconst (pc := 57) (v := (-1)) k79_57 (by decide) ?_
        refine q_istore (pc := 58) [some (.ref 0), some (.int a1), some (.int a2), some (.int a3), some (.int a4), some (.int a5), some (.int (-1))] k79_58 rfl (by decide) rfl ?_
        refine q_iload (pc := 60) k79_60 rfl ?_
        refine q_iload (pc := 62) k79_62 rfl ?_
        refine q_aload_n (pc := 64) k79_64 rfl ?_
        refine q_getR (pc := 65) k79_65 fg79_26 rfl rfl ?_
        refine q_getR (pc := 68) k79_68 fg79_63 rfl rfl ?_
        refine q_iload_n (pc := 71) k79_71 rfl ?_
        refine q_iload (pc := 72) k79_72 rfl ?_
        refine q_invV (pc := 74) (As := [.int a1, .int a5]) (st := [.int (-1), .int a4]) k79_74 lm79_154 ov28 rfl rfl rfl (q_cat rfl) (Nat.le_of_ble_eq_true rfl) hd h ?_
        rintro v M6 ⟨r7, rfl, h⟩
        show q_Ex X d 79 (74 + 3) [some (.ref 0), some (.int a1), some (.int a2), some (.int a3), some (.int a4), some (.int a5), some (.int (-1))] [.int r7, .int (-1), .int a4] M6 _
        refine q_imul (pc := 77) k79_77 ?_
        refine q_aload_n (pc := 78) k79_78 rfl ?_
        refine q_iload_n (pc := 79) k79_79 rfl ?_
        refine q_iconst (pc := 80) (v := 1) k79_80 (by decide) ?_
        refine q_iadd (pc := 81) k79_81 ?_
        refine q_iload_n (pc := 82) k79_82 rfl ?_
        refine q_iconst (pc := 83) (v := 1) k79_83 (by decide) ?_
        refine q_iload (pc := 84) k79_84 rfl ?_
        refine q_ishl (pc := 86) k79_86 ?_
        refine q_ior (pc := 87) k79_87 ?_
        refine q_invV (pc := 88) (As := [.int (a1 + 1), .int (a2 ||| ((1 : Int32) <<< (a5 &&& 31)))]) (st := [.int (((-1) : Int32) * r7), .int a4]) k79_88 lm79_162 ov79 rfl rfl rfl (q_cat rfl) (Nat.le_of_ble_eq_true rfl) hd h ?_
        rintro v M8 ⟨r9, rfl, h⟩
        show q_Ex X d 79 (88 + 3) [some (.ref 0), some (.int a1), some (.int a2), some (.int a3), some (.int a4), some (.int a5), some (.int (-1))] [.int r9, .int (((-1) : Int32) * r7), .int a4] M8 _
        refine q_imul (pc := 91) k79_91 ?_
        refine q_iadd (pc := 92) k79_92 ?_
        refine q_istore (pc := 93) [some (.ref 0), some (.int a1), some (.int a2), some (.int a3), some (.int (a4 + ((((-1) : Int32) * r7) * r9))), some (.int a5), some (.int (-1))] k79_93 rfl (by decide) rfl ?_
        refine q_iinc (pc := 95) (v := a5 + 1) [some (.ref 0), some (.int a1), some (.int a2), some (.int a3), some (.int (a4 + ((((-1) : Int32) * r7) * r9))), some (.int (a5 + 1)), some (.int (-1))] k79_95 rfl rfl rfl (by decide) rfl ?_
        refine q_goto (pc := 98) 24 k79_98 (by decide) ?_
        exact q_forget [some (.ref 0), some (.int a1), some (.int a2), some (.int a3), some (.int (a4 + ((((-1) : Int32) * r7) * r9))), some (.int (a5 + 1)), none] (q_subOk (And.intro rfl (And.intro rfl (And.intro rfl (And.intro rfl (And.intro rfl (And.intro rfl (trivial)))))))) h
      · replace h := h.2 g5
        refine q_iconst (pc := 53) (v := 1) k79_53 (by decide) ?_
        refine q_goto (pc := 54) 58 k79_54 (by decide) ?_
        refine q_istore (pc := 58) [some (.ref 0), some (.int a1), some (.int a2), some (.int a3), some (.int a4), some (.int a5), some (.int 1)] k79_58 rfl (by decide) rfl ?_
        refine q_iload (pc := 60) k79_60 rfl ?_
        refine q_iload (pc := 62) k79_62 rfl ?_
        refine q_aload_n (pc := 64) k79_64 rfl ?_
        refine q_getR (pc := 65) k79_65 fg79_26 rfl rfl ?_
        refine q_getR (pc := 68) k79_68 fg79_63 rfl rfl ?_
        refine q_iload_n (pc := 71) k79_71 rfl ?_
        refine q_iload (pc := 72) k79_72 rfl ?_
        refine q_invV (pc := 74) (As := [.int a1, .int a5]) (st := [.int 1, .int a4]) k79_74 lm79_154 ov28 rfl rfl rfl (q_cat rfl) (Nat.le_of_ble_eq_true rfl) hd h ?_
        rintro v M10 ⟨r11, rfl, h⟩
        show q_Ex X d 79 (74 + 3) [some (.ref 0), some (.int a1), some (.int a2), some (.int a3), some (.int a4), some (.int a5), some (.int 1)] [.int r11, .int 1, .int a4] M10 _
        refine q_imul (pc := 77) k79_77 ?_
        refine q_aload_n (pc := 78) k79_78 rfl ?_
        refine q_iload_n (pc := 79) k79_79 rfl ?_
        refine q_iconst (pc := 80) (v := 1) k79_80 (by decide) ?_
        refine q_iadd (pc := 81) k79_81 ?_
        refine q_iload_n (pc := 82) k79_82 rfl ?_
        refine q_iconst (pc := 83) (v := 1) k79_83 (by decide) ?_
        refine q_iload (pc := 84) k79_84 rfl ?_
        refine q_ishl (pc := 86) k79_86 ?_
        refine q_ior (pc := 87) k79_87 ?_
        refine q_invV (pc := 88) (As := [.int (a1 + 1), .int (a2 ||| ((1 : Int32) <<< (a5 &&& 31)))]) (st := [.int ((1 : Int32) * r11), .int a4]) k79_88 lm79_162 ov79 rfl rfl rfl (q_cat rfl) (Nat.le_of_ble_eq_true rfl) hd h ?_
        rintro v M12 ⟨r13, rfl, h⟩
        show q_Ex X d 79 (88 + 3) [some (.ref 0), some (.int a1), some (.int a2), some (.int a3), some (.int a4), some (.int a5), some (.int 1)] [.int r13, .int ((1 : Int32) * r11), .int a4] M12 _
        refine q_imul (pc := 91) k79_91 ?_
        refine q_iadd (pc := 92) k79_92 ?_
        refine q_istore (pc := 93) [some (.ref 0), some (.int a1), some (.int a2), some (.int a3), some (.int (a4 + (((1 : Int32) * r11) * r13))), some (.int a5), some (.int 1)] k79_93 rfl (by decide) rfl ?_
        refine q_iinc (pc := 95) (v := a5 + 1) [some (.ref 0), some (.int a1), some (.int a2), some (.int a3), some (.int (a4 + (((1 : Int32) * r11) * r13))), some (.int (a5 + 1)), some (.int 1)] k79_95 rfl rfl rfl (by decide) rfl ?_
        refine q_goto (pc := 98) 24 k79_98 (by decide) ?_
        exact q_forget [some (.ref 0), some (.int a1), some (.int a2), some (.int a3), some (.int (a4 + (((1 : Int32) * r11) * r13))), some (.int (a5 + 1)), none] (q_subOk (And.intro rfl (And.intro rfl (And.intro rfl (And.intro rfl (And.intro rfl (And.intro rfl (trivial)))))))) h
set_option maxRecDepth 20000 in
theorem vc80 {X : Nat × (Nat → Int32)} {d : Nat} (hd : 0 < d) {M : q_M} {a1 a2 a3 a4 : Int32} {K : Int32 → q_M → Prop} (h : ((a1 < a2) → (((a1 = (M 0 16)) → (vp_in a3 3 ∧ (q_Ci X (d - 1) 29 [.ref 11, .int (M 89 (Int32.toNatClampNeg a3)), .int a3, .int a4] M (fun r4 M3 => K r4 M3)))) ∧ ((¬ a1 = (M 0 16)) → (q_Cr X (d - 1) 75 [.ref 0] M (fun r6 M5 => q_Ci X (d - 1) 1 [.ref 88, .ref r6, .int (M5 10 3), .int 0, .int (a1 + 1)] M5 (fun r8 M7 => vp_in a3 3 ∧ (q_Ci X (d - 1) 29 [.ref 11, .int (M7 89 (Int32.toNatClampNeg a3)), .int a3, .int a4] (q_set M7 0 16 a1) (fun r10 M9 => K r10 M9)))))))) ∧ ((¬ a1 < a2) → (K (-9) M))) : q_Ci X d 80 [.ref 0, .int a1, .int a2, .int a3, .int a4] M K := by
  show q_Ex X d 80 0 [some (.ref 0), some (.int a1), some (.int a2), some (.int a3), some (.int a4)] [] M (q_ri K)
  refine q_iload_n (pc := 0) k80_0 rfl ?_
  refine q_iload_n (pc := 1) k80_1 rfl ?_
  refine q_icmp_lt (pc := 2) 8 k80_2 (by decide) (fun g1 => ?_) (fun g1 => ?_)
  · replace h := h.1 g1
    refine q_iload_n (pc := 8) k80_8 rfl ?_
    refine q_aload_n (pc := 9) k80_9 rfl ?_
    refine q_getIv (pc := 10) (v := M 0 16) k80_10 fg80_58 rfl rfl rfl ?_
    refine q_icmp_eq (pc := 13) 44 k80_13 (by decide) (fun g2 => ?_) (fun g2 => ?_)
    · replace h := h.1 g2
      refine q_aload_n (pc := 44) k80_44 rfl ?_
      refine q_getR (pc := 45) k80_45 fg80_26 rfl rfl ?_
      refine q_getR (pc := 48) k80_48 fg80_63 rfl rfl ?_
      refine q_aload_n (pc := 51) k80_51 rfl ?_
      refine q_getR (pc := 52) k80_52 fg80_90 rfl rfl ?_
      refine q_getR (pc := 55) k80_55 fg80_288 rfl rfl ?_
      refine q_iload_n (pc := 58) k80_58 rfl ?_
      refine q_ialdv (pc := 59) (v := M 89 (Int32.toNatClampNeg a3)) k80_59 rfl h.1 rfl ?_
      replace h := h.2
      refine q_iload_n (pc := 60) k80_60 rfl ?_
      refine q_iload (pc := 61) k80_61 rfl ?_
      refine q_invV (pc := 63) (As := [.int (M 89 (Int32.toNatClampNeg a3)), .int a3, .int a4]) (st := []) k80_63 lm80_291 ov29 rfl rfl rfl (q_cat rfl) (Nat.le_of_ble_eq_true rfl) hd h ?_
      rintro v M3 ⟨r4, rfl, h⟩
      show q_Ex X d 80 (63 + 3) [some (.ref 0), some (.int a1), some (.int a2), some (.int a3), some (.int a4)] [.int r4] M3 _
      exact q_ireturn (pc := 66) k80_66 rfl ⟨_, rfl, h⟩
    · replace h := h.2 g2
      refine q_aload_n (pc := 16) k80_16 rfl ?_
      refine q_getR (pc := 17) k80_17 fg80_90 rfl rfl ?_
      refine q_aload_n (pc := 20) k80_20 rfl ?_
      refine q_invV (pc := 21) (As := []) (st := [.ref 88]) k80_21 lm80_212 ov75 rfl rfl rfl (q_cat rfl) (Nat.le_of_ble_eq_true rfl) hd h ?_
      rintro v M5 ⟨r6, rfl, h⟩
      show q_Ex X d 80 (21 + 3) [some (.ref 0), some (.int a1), some (.int a2), some (.int a3), some (.int a4)] [.ref r6, .ref 88] M5 _
      refine q_aload_n (pc := 24) k80_24 rfl ?_
      refine q_getR (pc := 25) k80_25 fg80_26 rfl rfl ?_
      refine q_getIv (pc := 28) (v := M5 10 3) k80_28 fg80_148 rfl rfl rfl ?_
      refine q_iconst (pc := 31) (v := 0) k80_31 (by decide) ?_
      refine q_iload_n (pc := 32) k80_32 rfl ?_
      refine q_iconst (pc := 33) (v := 1) k80_33 (by decide) ?_
      refine q_iadd (pc := 34) k80_34 ?_
      refine q_invV (pc := 35) (As := [.ref r6, .int (M5 10 3), .int 0, .int (a1 + 1)]) (st := []) k80_35 lm80_217 ov1 rfl rfl rfl (q_cat rfl) (Nat.le_of_ble_eq_true rfl) hd h ?_
      rintro v M7 ⟨r8, rfl, h⟩
      show q_Ex X d 80 (35 + 3) [some (.ref 0), some (.int a1), some (.int a2), some (.int a3), some (.int a4)] [.int r8] M7 _
      refine q_pop (pc := 38) k80_38 rfl ?_
      refine q_aload_n (pc := 39) k80_39 rfl ?_
      refine q_iload_n (pc := 40) k80_40 rfl ?_
      refine q_putI (pc := 41) k80_41 fp80_58 rfl rfl ?_
      refine q_aload_n (pc := 44) k80_44 rfl ?_
      refine q_getR (pc := 45) k80_45 fg80_26 rfl rfl ?_
      refine q_getR (pc := 48) k80_48 fg80_63 rfl rfl ?_
      refine q_aload_n (pc := 51) k80_51 rfl ?_
      refine q_getR (pc := 52) k80_52 fg80_90 rfl rfl ?_
      refine q_getR (pc := 55) k80_55 fg80_288 rfl rfl ?_
      refine q_iload_n (pc := 58) k80_58 rfl ?_
      refine q_ialdv (pc := 59) (v := M7 89 (Int32.toNatClampNeg a3)) k80_59 rfl h.1 rfl ?_
      replace h := h.2
      refine q_iload_n (pc := 60) k80_60 rfl ?_
      refine q_iload (pc := 61) k80_61 rfl ?_
      refine q_invV (pc := 63) (As := [.int (M7 89 (Int32.toNatClampNeg a3)), .int a3, .int a4]) (st := []) k80_63 lm80_291 ov29 rfl rfl rfl (q_cat rfl) (Nat.le_of_ble_eq_true rfl) hd h ?_
      rintro v M9 ⟨r10, rfl, h⟩
      show q_Ex X d 80 (63 + 3) [some (.ref 0), some (.int a1), some (.int a2), some (.int a3), some (.int a4)] [.int r10] M9 _
      exact q_ireturn (pc := 66) k80_66 rfl ⟨_, rfl, h⟩
  · replace h := h.2 g1
    refine q_bipush (pc := 5) (v := (-9)) k80_5 (by decide) ?_
    exact q_ireturn (pc := 7) k80_7 rfl ⟨_, rfl, h⟩
set_option maxRecDepth 20000 in
theorem vc81 {X : Nat × (Nat → Int32)} {d : Nat} {M : q_M} {K : Int32 → q_M → Prop} (h : q_Ex X d 81 13 [some (.ref 0), some (.int (M 11 4)), some (.int 0), none, none] [] M (q_ri K)) : q_Ci X d 81 [.ref 0] M K := by
  show q_Ex X d 81 0 [some (.ref 0), none, none, none, none] [] M (q_ri K)
  refine q_aload_n (pc := 0) k81_0 rfl ?_
  refine q_getR (pc := 1) k81_1 fg81_26 rfl rfl ?_
  refine q_getR (pc := 4) k81_4 fg81_63 rfl rfl ?_
  refine q_getIv (pc := 7) (v := M 11 4) k81_7 fg81_141 rfl rfl rfl ?_
  refine q_istore_n (pc := 10) [some (.ref 0), some (.int (M 11 4)), none, none, none] k81_10 rfl (by decide) rfl ?_
  refine q_iconst (pc := 11) (v := 0) k81_11 (by decide) ?_
  refine q_istore_n (pc := 12) [some (.ref 0), some (.int (M 11 4)), some (.int 0), none, none] k81_12 rfl (by decide) rfl ?_
  exact h
set_option maxRecDepth 20000 in
theorem vc81_p13 {X : Nat × (Nat → Int32)} {d : Nat} (hd : 0 < d) {M : q_M} {a1 a2 : Int32} {K : Int32 → q_M → Prop} (h : ((a1 ≤ a2) → (K (-1) M)) ∧ ((¬ a1 ≤ a2) → (q_Ci X (d - 1) 8 [.ref 10, .int a2] M (fun r3 M2 => q_Ci X (d - 1) 23 [.ref 11, .int r3] M2 (fun r5 M4 => ((r5 = 0) → (K a2 M4)) ∧ ((¬ r5 = 0) → (vp_in r3 30 ∧ ((((M4 12 (Int32.toNatClampNeg r3)) = 3) → (q_Cr X (d - 1) 75 [.ref 0] M4 (fun r9 M8 => q_CV X (d - 1) 81 297 r9 [.int a2, .int a1, .int (M8 10 3)] M8 (fun r10 M11 => vp_in r3 30 ∧ (((¬ ((r10 >>> ((M11 14 (Int32.toNatClampNeg r3)) &&& 31)) &&& 1) = 0) → (q_Ex X d 81 13 [some (.ref 0), some (.int a1), some (.int (a2 + 1)), none, none] [] M11 (q_ri K))) ∧ ((((r10 >>> ((M11 14 (Int32.toNatClampNeg r3)) &&& 31)) &&& 1) = 0) → (K a2 M11))))))) ∧ ((¬ (M4 12 (Int32.toNatClampNeg r3)) = 3) → (K a2 M4)))))))))) : q_Ex X d 81 13 [some (.ref 0), some (.int a1), some (.int a2), none, none] [] M (q_ri K) := by
  refine q_iload_n (pc := 13) k81_13 rfl ?_
  refine q_iload_n (pc := 14) k81_14 rfl ?_
  refine q_icmp_ge (pc := 15) 105 k81_15 (by decide) (fun g1 => ?_) (fun g1 => ?_)
  · replace h := h.1 g1
    refine q_iconst (pc := 105) (v := (-1)) k81_105 (by decide) ?_
    exact q_ireturn (pc := 106) k81_106 rfl ⟨_, rfl, h⟩
  · replace h := h.2 g1
    refine q_aload_n (pc := 18) k81_18 rfl ?_
    refine q_getR (pc := 19) k81_19 fg81_26 rfl rfl ?_
    refine q_iload_n (pc := 22) k81_22 rfl ?_
    refine q_invV (pc := 23) (As := [.int a2]) (st := []) k81_23 lm81_294 ov8 rfl rfl rfl (q_cat rfl) (Nat.le_of_ble_eq_true rfl) hd h ?_
    rintro v M2 ⟨r3, rfl, h⟩
    show q_Ex X d 81 (23 + 3) [some (.ref 0), some (.int a1), some (.int a2), none, none] [.int r3] M2 _
    refine q_istore_n (pc := 26) [some (.ref 0), some (.int a1), some (.int a2), some (.int r3), none] k81_26 rfl (by decide) rfl ?_
    refine q_aload_n (pc := 27) k81_27 rfl ?_
    refine q_getR (pc := 28) k81_28 fg81_26 rfl rfl ?_
    refine q_getR (pc := 31) k81_31 fg81_63 rfl rfl ?_
    refine q_iload_n (pc := 34) k81_34 rfl ?_
    refine q_invV (pc := 35) (As := [.int r3]) (st := []) k81_35 lm81_121 ov23 rfl rfl rfl (q_cat rfl) (Nat.le_of_ble_eq_true rfl) hd h ?_
    rintro v M4 ⟨r5, rfl, h⟩
    show q_Ex X d 81 (35 + 3) [some (.ref 0), some (.int a1), some (.int a2), some (.int r3), none] [.int r5] M4 _
    refine q_if_eq (pc := 38) 57 k81_38 (by decide) (fun g6 => ?_) (fun g6 => ?_)
    · replace h := h.1 g6
      refine q_iload_n (pc := 57) k81_57 rfl ?_
      exact q_ireturn (pc := 58) k81_58 rfl ⟨_, rfl, h⟩
    · replace h := h.2 g6
      refine q_aload_n (pc := 41) k81_41 rfl ?_
      refine q_getR (pc := 42) k81_42 fg81_26 rfl rfl ?_
      refine q_getR (pc := 45) k81_45 fg81_63 rfl rfl ?_
      refine q_getR (pc := 48) k81_48 fg81_125 rfl rfl ?_
      refine q_iload_n (pc := 51) k81_51 rfl ?_
      refine q_ialdv (pc := 52) (v := M4 12 (Int32.toNatClampNeg r3)) k81_52 rfl h.1 rfl ?_
      replace h := h.2
      refine q_iconst (pc := 53) (v := 3) k81_53 (by decide) ?_
      refine q_icmp_eq (pc := 54) 59 k81_54 (by decide) (fun g7 => ?_) (fun g7 => ?_)
      · replace h := h.1 g7
        refine q_aload_n (pc := 59) k81_59 rfl ?_
        refine q_invV (pc := 60) (As := []) (st := []) k81_60 lm81_212 ov75 rfl rfl rfl (q_cat rfl) (Nat.le_of_ble_eq_true rfl) hd h ?_
        rintro v M8 ⟨r9, rfl, h⟩
        show q_Ex X d 81 (60 + 3) [some (.ref 0), some (.int a1), some (.int a2), some (.int r3), none] [.ref r9] M8 _
        refine q_iload_n (pc := 63) k81_63 rfl ?_
        refine q_iload_n (pc := 64) k81_64 rfl ?_
        refine q_aload_n (pc := 65) k81_65 rfl ?_
        refine q_getR (pc := 66) k81_66 fg81_26 rfl rfl ?_
        refine q_getIv (pc := 69) (v := M8 10 3) k81_69 fg81_148 rfl rfl rfl ?_
        refine q_invC (pc := 72) (As := [.int a2, .int a1, .int (M8 10 3)]) (st := []) k81_72 rfl (q_cat rfl) (Nat.le_of_ble_eq_true rfl) hd h (fun r10 M11 h => ?_)
        refine q_istore (pc := 75) [some (.ref 0), some (.int a1), some (.int a2), some (.int r3), some (.int r10)] k81_75 rfl (by decide) rfl ?_
        refine q_iload (pc := 77) k81_77 rfl ?_
        refine q_aload_n (pc := 79) k81_79 rfl ?_
        refine q_getR (pc := 80) k81_80 fg81_26 rfl rfl ?_
        refine q_getR (pc := 83) k81_83 fg81_63 rfl rfl ?_
        refine q_getR (pc := 86) k81_86 fg81_131 rfl rfl ?_
        refine q_iload_n (pc := 89) k81_89 rfl ?_
        refine q_ialdv (pc := 90) (v := M11 14 (Int32.toNatClampNeg r3)) k81_90 rfl h.1 rfl ?_
        replace h := h.2
        refine q_ishr (pc := 91) k81_91 ?_
        refine q_iconst (pc := 92) (v := 1) k81_92 (by decide) ?_
        refine q_iand (pc := 93) k81_93 ?_
        refine q_if_ne (pc := 94) 99 k81_94 (by decide) (fun g12 => ?_) (fun g12 => ?_)
        · replace h := h.1 g12
          refine q_iinc (pc := 99) (v := a2 + 1) [some (.ref 0), some (.int a1), some (.int (a2 + 1)), some (.int r3), some (.int r10)] k81_99 rfl rfl rfl (by decide) rfl ?_
          refine q_goto (pc := 102) 13 k81_102 (by decide) ?_
          exact q_forget [some (.ref 0), some (.int a1), some (.int (a2 + 1)), none, none] (q_subOk (And.intro rfl (And.intro rfl (And.intro rfl (trivial))))) h
        · replace h := h.2 g12
          refine q_iload_n (pc := 97) k81_97 rfl ?_
          exact q_ireturn (pc := 98) k81_98 rfl ⟨_, rfl, h⟩
      · replace h := h.2 g7
        refine q_iload_n (pc := 57) k81_57 rfl ?_
        exact q_ireturn (pc := 58) k81_58 rfl ⟨_, rfl, h⟩
set_option maxRecDepth 20000 in
theorem vc82 {X : Nat × (Nat → Int32)} {d : Nat} {M : q_M} {a0 a1 : Int32} {K : Int32 → q_M → Prop} (h : ((1 ≤ a0) → (¬ a0 = 0 ∧ (K (((((a1 * 1664525) + 1013904223) &&& 2147483647) / 256) - ((((a1 * 1664525) + 1013904223) &&& 2147483647) / 256) / a0 * a0) M))) ∧ ((¬ 1 ≤ a0) → (K 0 M))) : q_Ci X d 82 [.int a0, .int a1] M K := by
  show q_Ex X d 82 0 [some (.int a0), some (.int a1), none] [] M (q_ri K)
  refine q_iload_n (pc := 0) k82_0 rfl ?_
  refine q_ldcw (pc := 1) (v := 1664525) k82_1 ld82_300 ?_
  refine q_imul (pc := 4) k82_4 ?_
  refine q_ldcw (pc := 5) (v := 1013904223) k82_5 ld82_301 ?_
  refine q_iadd (pc := 8) k82_8 ?_
  refine q_istore_n (pc := 9) [some (.int a0), some (.int a1), some (.int ((a1 * 1664525) + 1013904223))] k82_9 rfl (by decide) rfl ?_
  refine q_iload_n (pc := 10) k82_10 rfl ?_
  refine q_iconst (pc := 11) (v := 1) k82_11 (by decide) ?_
  refine q_icmp_ge (pc := 12) 19 k82_12 (by decide) (fun g1 => ?_) (fun g1 => ?_)
  · replace h := h.1 g1
    refine q_iload_n (pc := 19) k82_19 rfl ?_
    refine q_ldc (pc := 20) (v := 2147483647) k82_20 ld82_216 ?_
    refine q_iand (pc := 22) k82_22 ?_
    refine q_sipush (pc := 23) (v := 256) k82_23 (by decide) ?_
    refine q_idiv (pc := 26) k82_26 (by decide) ?_
    refine q_iload_n (pc := 27) k82_27 rfl ?_
    refine q_irem (pc := 28) k82_28 h.1 ?_
    replace h := h.2
    exact q_ireturn (pc := 29) k82_29 rfl ⟨_, rfl, h⟩
  · replace h := h.2 g1
    refine q_iconst (pc := 15) (v := 0) k82_15 (by decide) ?_
    refine q_goto (pc := 16) 29 k82_16 (by decide) ?_
    exact q_ireturn (pc := 29) k82_29 rfl ⟨_, rfl, h⟩
set_option maxRecDepth 20000 in
theorem vc83 {X : Nat × (Nat → Int32)} {d : Nat} {M : q_M} {a0 a1 : Int32} {K : Int32 → q_M → Prop} (h : q_Ex X d 83 7 [none, none, some (.int a0), some (.int a1), some (.int 0), none] [] M (q_ri K)) : q_Ci X d 83 [.int a0, .int a1] M K := by
  show q_Ex X d 83 0 [some (.int a0), some (.int a1), none, none, none, none] [] M (q_ri K)
  refine q_iload_n (pc := 0) k83_0 rfl ?_
  refine q_istore_n (pc := 1) [some (.int a0), some (.int a1), some (.int a0), none, none, none] k83_1 rfl (by decide) rfl ?_
  refine q_iload_n (pc := 2) k83_2 rfl ?_
  refine q_istore_n (pc := 3) [some (.int a0), some (.int a1), some (.int a0), some (.int a1), none, none] k83_3 rfl (by decide) rfl ?_
  refine q_iconst (pc := 4) (v := 0) k83_4 (by decide) ?_
  refine q_istore (pc := 5) [some (.int a0), some (.int a1), some (.int a0), some (.int a1), some (.int 0), none] k83_5 rfl (by decide) rfl ?_
  exact q_forget [none, none, some (.int a0), some (.int a1), some (.int 0), none] (q_subOk (And.intro rfl (And.intro rfl (And.intro rfl (trivial))))) h
set_option maxRecDepth 20000 in
theorem vc83_p7 {X : Nat × (Nat → Int32)} {d : Nat} (hd : 0 < d) {M : q_M} {a2 a3 a4 : Int32} {K : Int32 → q_M → Prop} (h : ((64 ≤ a4) → (K (if a2 < 1 then 1 else a2) M)) ∧ ((¬ 64 ≤ a4) → (((a3 ≤ 0) → (K (if a2 < 1 then 1 else a2) M)) ∧ ((¬ a3 ≤ 0) → (¬ a3 = 0 ∧ (q_Ex X d 83 7 [none, none, some (.int a3), some (.int (a2 - a2 / a3 * a3)), some (.int (a4 + 1)), none] [] M (q_ri K))))))) : q_Ex X d 83 7 [none, none, some (.int a2), some (.int a3), some (.int a4), none] [] M (q_ri K) := by
  refine q_iload (pc := 7) k83_7 rfl ?_
  refine q_bipush (pc := 9) (v := 64) k83_9 (by decide) ?_
  refine q_icmp_ge (pc := 11) 34 k83_11 (by decide) (fun g1 => ?_) (fun g1 => ?_)
  · replace h := h.1 g1
    refine q_iload_n (pc := 34) k83_34 rfl ?_
    refine q_iconst (pc := 35) (v := 1) k83_35 (by decide) ?_
    refine q_mmax (pc := 36) k83_36 lx83_302 oc_max (Nat.le_of_ble_eq_true rfl) ?_
    exact q_ireturn (pc := 39) k83_39 rfl ⟨_, rfl, h⟩
  · replace h := h.2 g1
    refine q_iload_n (pc := 14) k83_14 rfl ?_
    refine q_if_le (pc := 15) 34 k83_15 (by decide) (fun g2 => ?_) (fun g2 => ?_)
    · replace h := h.1 g2
      refine q_iload_n (pc := 34) k83_34 rfl ?_
      refine q_iconst (pc := 35) (v := 1) k83_35 (by decide) ?_
      refine q_mmax (pc := 36) k83_36 lx83_302 oc_max (Nat.le_of_ble_eq_true rfl) ?_
      exact q_ireturn (pc := 39) k83_39 rfl ⟨_, rfl, h⟩
    · replace h := h.2 g2
      refine q_iload_n (pc := 18) k83_18 rfl ?_
      refine q_iload_n (pc := 19) k83_19 rfl ?_
      refine q_irem (pc := 20) k83_20 h.1 ?_
      replace h := h.2
      refine q_istore (pc := 21) [none, none, some (.int a2), some (.int a3), some (.int a4), some (.int (a2 - a2 / a3 * a3))] k83_21 rfl (by decide) rfl ?_
      refine q_iload_n (pc := 23) k83_23 rfl ?_
      refine q_istore_n (pc := 24) [none, none, some (.int a3), some (.int a3), some (.int a4), some (.int (a2 - a2 / a3 * a3))] k83_24 rfl (by decide) rfl ?_
      refine q_iload (pc := 25) k83_25 rfl ?_
      refine q_istore_n (pc := 27) [none, none, some (.int a3), some (.int (a2 - a2 / a3 * a3)), some (.int a4), some (.int (a2 - a2 / a3 * a3))] k83_27 rfl (by decide) rfl ?_
      refine q_iinc (pc := 28) (v := a4 + 1) [none, none, some (.int a3), some (.int (a2 - a2 / a3 * a3)), some (.int (a4 + 1)), some (.int (a2 - a2 / a3 * a3))] k83_28 rfl rfl rfl (by decide) rfl ?_
      refine q_goto (pc := 31) 7 k83_31 (by decide) ?_
      exact q_forget [none, none, some (.int a3), some (.int (a2 - a2 / a3 * a3)), some (.int (a4 + 1)), none] (q_subOk (And.intro rfl (And.intro rfl (And.intro rfl (trivial))))) h
set_option maxRecDepth 20000 in
theorem vc84 {X : Nat × (Nat → Int32)} {d : Nat} {M : q_M} {a0 a1 a2 : Int32} {K : Int32 → q_M → Prop} (h : q_Ex X d 84 8 [some (.int a0), some (.int a1), some (.int a2), some (.long 1), none, some (.long 1), none, some (.int 1), none] [] M (q_ri K)) : q_Ci X d 84 [.int a0, .int a1, .int a2] M K := by
  show q_Ex X d 84 0 [some (.int a0), some (.int a1), some (.int a2), none, none, none, none, none, none] [] M (q_ri K)
  refine q_lconst (pc := 0) (v := 1) k84_0 (by decide) ?_
  refine q_lstore_n (pc := 1) [some (.int a0), some (.int a1), some (.int a2), some (.long 1), none, none, none, none, none] k84_1 rfl (by decide) rfl ?_
  refine q_lconst (pc := 2) (v := 1) k84_2 (by decide) ?_
  refine q_lstore (pc := 3) [some (.int a0), some (.int a1), some (.int a2), some (.long 1), none, some (.long 1), none, none, none] k84_3 rfl (by decide) rfl ?_
  refine q_iconst (pc := 5) (v := 1) k84_5 (by decide) ?_
  refine q_istore (pc := 6) [some (.int a0), some (.int a1), some (.int a2), some (.long 1), none, some (.long 1), none, some (.int 1), none] k84_6 rfl (by decide) rfl ?_
  exact h
set_option maxRecDepth 20000 in
theorem vc84_p8 {X : Nat × (Nat → Int32)} {d : Nat} {M : q_M} {a0 a1 a2 a7 : Int32} {a3 a5 : Int64} {K : Int32 → q_M → Prop} (h : ((a0 < a7) → (((0 ≤ (lg_cmp a5 1)) → (¬ a5 = 0 ∧ (K (Int64.toInt32 (a3 / a5)) M))) ∧ ((¬ 0 ≤ (lg_cmp a5 1)) → (K 0 M)))) ∧ ((¬ a0 < a7) → (q_Ex X d 84 17 [some (.int a0), some (.int a1), some (.int a2), some (.long a3), none, some (.long a5), none, some (.int a7), some (.int 1)] [] M (q_ri K)))) : q_Ex X d 84 8 [some (.int a0), some (.int a1), some (.int a2), some (.long a3), none, some (.long a5), none, some (.int a7), none] [] M (q_ri K) := by
  refine q_iload (pc := 8) k84_8 rfl ?_
  refine q_iload_n (pc := 10) k84_10 rfl ?_
  refine q_icmp_gt (pc := 11) 61 k84_11 (by decide) (fun g1 => ?_) (fun g1 => ?_)
  · replace h := h.1 g1
    refine q_lload (pc := 61) k84_61 rfl ?_
    refine q_lconst (pc := 63) (v := 1) k84_63 (by decide) ?_
    refine q_lcmp (pc := 64) k84_64 ?_
    refine q_if_ge (pc := 65) 72 k84_65 (by decide) (fun g2 => ?_) (fun g2 => ?_)
    · replace h := h.1 g2
      refine q_lload_n (pc := 72) k84_72 rfl ?_
      refine q_lload (pc := 73) k84_73 rfl ?_
      refine q_ldiv (pc := 75) k84_75 h.1 ?_
      replace h := h.2
      refine q_l2i (pc := 76) k84_76 ?_
      exact q_ireturn (pc := 77) k84_77 rfl ⟨_, rfl, h⟩
    · replace h := h.2 g2
      refine q_iconst (pc := 68) (v := 0) k84_68 (by decide) ?_
      refine q_goto (pc := 69) 77 k84_69 (by decide) ?_
      exact q_ireturn (pc := 77) k84_77 rfl ⟨_, rfl, h⟩
  · replace h := h.2 g1
    refine q_iconst (pc := 14) (v := 1) k84_14 (by decide) ?_
    refine q_istore (pc := 15) [some (.int a0), some (.int a1), some (.int a2), some (.long a3), none, some (.long a5), none, some (.int a7), some (.int 1)] k84_15 rfl (by decide) rfl ?_
    exact h
set_option maxRecDepth 20000 in
theorem vc84_p17 {X : Nat × (Nat → Int32)} {d : Nat} {M : q_M} {a0 a1 a2 a7 a8 : Int32} {a3 a5 : Int64} {K : Int32 → q_M → Prop} (h : ((a1 < a8) → (q_Ex X d 84 8 [some (.int a0), some (.int a1), some (.int a2), some (.long a3), none, some (.long a5), none, some (.int (a7 + 1)), none] [] M (q_ri K))) ∧ ((¬ a1 < a8) → (q_Ex X d 84 17 [some (.int a0), some (.int a1), some (.int a2), some (.long (a3 * (Int32.toInt64 (((a7 + a8) + a2) - 1)))), none, some (.long (a5 * (Int32.toInt64 ((a7 + a8) - 1)))), none, some (.int a7), some (.int (a8 + 1))] [] M (q_ri K)))) : q_Ex X d 84 17 [some (.int a0), some (.int a1), some (.int a2), some (.long a3), none, some (.long a5), none, some (.int a7), some (.int a8)] [] M (q_ri K) := by
  refine q_iload (pc := 17) k84_17 rfl ?_
  refine q_iload_n (pc := 19) k84_19 rfl ?_
  refine q_icmp_gt (pc := 20) 55 k84_20 (by decide) (fun g1 => ?_) (fun g1 => ?_)
  · replace h := h.1 g1
    refine q_iinc (pc := 55) (v := a7 + 1) [some (.int a0), some (.int a1), some (.int a2), some (.long a3), none, some (.long a5), none, some (.int (a7 + 1)), some (.int a8)] k84_55 rfl rfl rfl (by decide) rfl ?_
    refine q_goto (pc := 58) 8 k84_58 (by decide) ?_
    exact q_forget [some (.int a0), some (.int a1), some (.int a2), some (.long a3), none, some (.long a5), none, some (.int (a7 + 1)), none] (q_subOk (And.intro rfl (And.intro rfl (And.intro rfl (And.intro rfl (And.intro rfl (And.intro rfl (trivial)))))))) h
  · replace h := h.2 g1
    refine q_lload_n (pc := 23) k84_23 rfl ?_
    refine q_iload (pc := 24) k84_24 rfl ?_
    refine q_iload (pc := 26) k84_26 rfl ?_
    refine q_iadd (pc := 28) k84_28 ?_
    refine q_iload_n (pc := 29) k84_29 rfl ?_
    refine q_iadd (pc := 30) k84_30 ?_
    refine q_iconst (pc := 31) (v := 1) k84_31 (by decide) ?_
    refine q_isub (pc := 32) k84_32 ?_
    refine q_i2l (pc := 33) k84_33 ?_
    refine q_lmul (pc := 34) k84_34 ?_
    refine q_lstore_n (pc := 35) [some (.int a0), some (.int a1), some (.int a2), some (.long (a3 * (Int32.toInt64 (((a7 + a8) + a2) - 1)))), none, some (.long a5), none, some (.int a7), some (.int a8)] k84_35 rfl (by decide) rfl ?_
    refine q_lload (pc := 36) k84_36 rfl ?_
    refine q_iload (pc := 38) k84_38 rfl ?_
    refine q_iload (pc := 40) k84_40 rfl ?_
    refine q_iadd (pc := 42) k84_42 ?_
    refine q_iconst (pc := 43) (v := 1) k84_43 (by decide) ?_
    refine q_isub (pc := 44) k84_44 ?_
    refine q_i2l (pc := 45) k84_45 ?_
    refine q_lmul (pc := 46) k84_46 ?_
    refine q_lstore (pc := 47) [some (.int a0), some (.int a1), some (.int a2), some (.long (a3 * (Int32.toInt64 (((a7 + a8) + a2) - 1)))), none, some (.long (a5 * (Int32.toInt64 ((a7 + a8) - 1)))), none, some (.int a7), some (.int a8)] k84_47 rfl (by decide) rfl ?_
    refine q_iinc (pc := 49) (v := a8 + 1) [some (.int a0), some (.int a1), some (.int a2), some (.long (a3 * (Int32.toInt64 (((a7 + a8) + a2) - 1)))), none, some (.long (a5 * (Int32.toInt64 ((a7 + a8) - 1)))), none, some (.int a7), some (.int (a8 + 1))] k84_49 rfl rfl rfl (by decide) rfl ?_
    refine q_goto (pc := 52) 17 k84_52 (by decide) ?_
    exact h
