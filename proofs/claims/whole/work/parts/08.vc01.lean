set_option maxRecDepth 20000 in
theorem vc16 {X : Nat × (Nat → Int32)} {d : Nat} (hd : 0 < d) {M : q_M} {a2 : Int32} {K : Int32 → q_M → Prop} (h : q_Cv X (d - 1) 17 [.ref 3] M (fun M1 => q_Ex X d 16 14 [some (.ref 3), some (.ref 1), none, some (.int (if 48 < a2 then 48 else a2)), some (.int 0), none] [] M1 (q_ri K))) : q_Ci X d 16 [.ref 3, .ref 1, .int a2] M K := by
  show q_Ex X d 16 0 [some (.ref 3), some (.ref 1), some (.int a2), none, none, none] [] M (q_ri K)
  refine q_aload_n (pc := 0) k16_0 rfl ?_
  refine q_invV (pc := 1) (As := []) (st := []) k16_1 lm16_52 ov17 rfl rfl rfl (q_cat rfl) (Nat.le_of_ble_eq_true rfl) hd h ?_
  rintro v M1 ⟨rfl, h⟩
  show q_Ex X d 16 (1 + 3) [some (.ref 3), some (.ref 1), some (.int a2), none, none, none] [] M1 _
  refine q_iload_n (pc := 4) k16_4 rfl ?_
  refine q_aload_n (pc := 5) k16_5 rfl ?_
  refine q_alen (pc := 6) (v := 48) k16_6 rfl rfl ?_
  refine q_mmin (pc := 7) k16_7 lx16_55 oc_min (Nat.le_of_ble_eq_true rfl) ?_
  refine q_istore_n (pc := 10) [some (.ref 3), some (.ref 1), some (.int a2), some (.int (if 48 < a2 then 48 else a2)), none, none] k16_10 rfl (by decide) rfl ?_
  refine q_iconst (pc := 11) (v := 0) k16_11 (by decide) ?_
  refine q_istore (pc := 12) [some (.ref 3), some (.ref 1), some (.int a2), some (.int (if 48 < a2 then 48 else a2)), some (.int 0), none] k16_12 rfl (by decide) rfl ?_
  exact q_forget [some (.ref 3), some (.ref 1), none, some (.int (if 48 < a2 then 48 else a2)), some (.int 0), none] (q_subOk (And.intro rfl (And.intro rfl (And.intro rfl (And.intro rfl (trivial)))))) h
set_option maxRecDepth 20000 in
theorem vc16_p14 {X : Nat × (Nat → Int32)} {d : Nat} (hd : 0 < d) {M : q_M} {a3 a4 : Int32} {K : Int32 → q_M → Prop} (h : ((a3 ≤ a4) → ((((M 3 0) < 1) → (K (((-1000) : Int32) - a3) M)) ∧ ((¬ (M 3 0) < 1) → ((((M 3 11) = (M 3 1)) → (q_Ci X (d - 1) 22 [.ref 3] (q_set M 3 0 ((M 3 0) + 1)) (fun r5 M4 => ((r5 = 0) → (K (-2000) M4)) ∧ ((¬ r5 = 0) → (K 0 M4))))) ∧ ((¬ (M 3 11) = (M 3 1)) → (K (((-1000) : Int32) - a3) M)))))) ∧ ((¬ a3 ≤ a4) → (vp_in a4 48 ∧ (((¬ (M 1 (Int32.toNatClampNeg a4)) = 47) → (vp_in a4 48 ∧ (q_Ci X (d - 1) 19 [.ref 3, .int (M 1 (Int32.toNatClampNeg a4))] M (fun r9 M8 => ((¬ r9 = 0) → (q_Ex X d 16 14 [some (.ref 3), some (.ref 1), none, some (.int a3), some (.int (a4 + 1)), none] [] M8 (q_ri K))) ∧ ((r9 = 0) → (K (((-1000) : Int32) - a4) M8)))))) ∧ (((M 1 (Int32.toNatClampNeg a4)) = 47) → (q_Ci X (d - 1) 18 [.ref 3] M (fun r12 M11 => ((¬ r12 = 0) → (q_Ex X d 16 14 [some (.ref 3), some (.ref 1), none, some (.int a3), some (.int (a4 + 1)), none] [] M11 (q_ri K))) ∧ ((r12 = 0) → (K (((-1000) : Int32) - a4) M11))))))))) : q_Ex X d 16 14 [some (.ref 3), some (.ref 1), none, some (.int a3), some (.int a4), none] [] M (q_ri K) := by
  refine q_iload (pc := 14) k16_14 rfl ?_
  refine q_iload_n (pc := 16) k16_16 rfl ?_
  refine q_icmp_ge (pc := 17) 64 k16_17 (by decide) (fun g1 => ?_) (fun g1 => ?_)
  · replace h := h.1 g1
    refine q_aload_n (pc := 64) k16_64 rfl ?_
    refine q_getIv (pc := 65) (v := M 3 0) k16_65 fg16_30 rfl rfl rfl ?_
    refine q_iconst (pc := 68) (v := 1) k16_68 (by decide) ?_
    refine q_icmp_lt (pc := 69) 83 k16_69 (by decide) (fun g2 => ?_) (fun g2 => ?_)
    · replace h := h.1 g2
      refine q_sipush (pc := 83) (v := (-1000)) k16_83 (by decide) ?_
      refine q_iload_n (pc := 86) k16_86 rfl ?_
      refine q_isub (pc := 87) k16_87 ?_
      exact q_ireturn (pc := 88) k16_88 rfl ⟨_, rfl, h⟩
    · replace h := h.2 g2
      refine q_aload_n (pc := 72) k16_72 rfl ?_
      refine q_getIv (pc := 73) (v := M 3 11) k16_73 fg16_69 rfl rfl rfl ?_
      refine q_aload_n (pc := 76) k16_76 rfl ?_
      refine q_getIv (pc := 77) (v := M 3 1) k16_77 fg16_34 rfl rfl rfl ?_
      refine q_icmp_eq (pc := 80) 89 k16_80 (by decide) (fun g3 => ?_) (fun g3 => ?_)
      · replace h := h.1 g3
        refine q_aload_n (pc := 89) k16_89 rfl ?_
        refine q_dup (pc := 90) k16_90 rfl ?_
        refine q_getIv (pc := 91) (v := M 3 0) k16_91 fg16_30 rfl rfl rfl ?_
        refine q_iconst (pc := 94) (v := 1) k16_94 (by decide) ?_
        refine q_iadd (pc := 95) k16_95 ?_
        refine q_putI (pc := 96) k16_96 fp16_30 rfl rfl ?_
        refine q_aload_n (pc := 99) k16_99 rfl ?_
        refine q_invV (pc := 100) (As := []) (st := []) k16_100 lm16_72 ov22 rfl rfl rfl (q_cat rfl) (Nat.le_of_ble_eq_true rfl) hd h ?_
        rintro v M4 ⟨r5, rfl, h⟩
        show q_Ex X d 16 (100 + 3) [some (.ref 3), some (.ref 1), none, some (.int a3), some (.int a4), none] [.int r5] M4 _
        refine q_if_eq (pc := 103) 110 k16_103 (by decide) (fun g6 => ?_) (fun g6 => ?_)
        · replace h := h.1 g6
          refine q_sipush (pc := 110) (v := (-2000)) k16_110 (by decide) ?_
          exact q_ireturn (pc := 113) k16_113 rfl ⟨_, rfl, h⟩
        · replace h := h.2 g6
          refine q_iconst (pc := 106) (v := 0) k16_106 (by decide) ?_
          refine q_goto (pc := 107) 113 k16_107 (by decide) ?_
          exact q_ireturn (pc := 113) k16_113 rfl ⟨_, rfl, h⟩
      · replace h := h.2 g3
        refine q_sipush (pc := 83) (v := (-1000)) k16_83 (by decide) ?_
        refine q_iload_n (pc := 86) k16_86 rfl ?_
        refine q_isub (pc := 87) k16_87 ?_
        exact q_ireturn (pc := 88) k16_88 rfl ⟨_, rfl, h⟩
  · replace h := h.2 g1
    refine q_aload_n (pc := 20) k16_20 rfl ?_
    refine q_iload (pc := 21) k16_21 rfl ?_
    refine q_ialdv (pc := 23) (v := M 1 (Int32.toNatClampNeg a4)) k16_23 rfl h.1 rfl ?_
    replace h := h.2
    refine q_bipush (pc := 24) (v := 47) k16_24 (by decide) ?_
    refine q_icmp_ne (pc := 26) 36 k16_26 (by decide) (fun g7 => ?_) (fun g7 => ?_)
    · replace h := h.1 g7
      refine q_aload_n (pc := 36) k16_36 rfl ?_
      refine q_aload_n (pc := 37) k16_37 rfl ?_
      refine q_iload (pc := 38) k16_38 rfl ?_
      refine q_ialdv (pc := 40) (v := M 1 (Int32.toNatClampNeg a4)) k16_40 rfl h.1 rfl ?_
      replace h := h.2
      refine q_invV (pc := 41) (As := [.int (M 1 (Int32.toNatClampNeg a4))]) (st := []) k16_41 lm16_65 ov19 rfl rfl rfl (q_cat rfl) (Nat.le_of_ble_eq_true rfl) hd h ?_
      rintro v M8 ⟨r9, rfl, h⟩
      show q_Ex X d 16 (41 + 3) [some (.ref 3), some (.ref 1), none, some (.int a3), some (.int a4), none] [.int r9] M8 _
      refine q_istore (pc := 44) [some (.ref 3), some (.ref 1), none, some (.int a3), some (.int a4), some (.int r9)] k16_44 rfl (by decide) rfl ?_
      refine q_iload (pc := 46) k16_46 rfl ?_
      refine q_if_ne (pc := 48) 58 k16_48 (by decide) (fun g10 => ?_) (fun g10 => ?_)
      · replace h := h.1 g10
        refine q_iinc (pc := 58) (v := a4 + 1) [some (.ref 3), some (.ref 1), none, some (.int a3), some (.int (a4 + 1)), some (.int r9)] k16_58 rfl rfl rfl (by decide) rfl ?_
        refine q_goto (pc := 61) 14 k16_61 (by decide) ?_
        exact q_forget [some (.ref 3), some (.ref 1), none, some (.int a3), some (.int (a4 + 1)), none] (q_subOk (And.intro rfl (And.intro rfl (And.intro rfl (And.intro rfl (trivial)))))) h
      · replace h := h.2 g10
        refine q_sipush (pc := 51) (v := (-1000)) k16_51 (by decide) ?_
        refine q_iload (pc := 54) k16_54 rfl ?_
        refine q_isub (pc := 56) k16_56 ?_
        exact q_ireturn (pc := 57) k16_57 rfl ⟨_, rfl, h⟩
    · replace h := h.2 g7
      refine q_aload_n (pc := 29) k16_29 rfl ?_
      refine q_invV (pc := 30) (As := []) (st := []) k16_30 lm16_61 ov18 rfl rfl rfl (q_cat rfl) (Nat.le_of_ble_eq_true rfl) hd h ?_
      rintro v M11 ⟨r12, rfl, h⟩
      show q_Ex X d 16 (30 + 3) [some (.ref 3), some (.ref 1), none, some (.int a3), some (.int a4), none] [.int r12] M11 _
      refine q_goto (pc := 33) 44 k16_33 (by decide) ?_
      refine q_istore (pc := 44) [some (.ref 3), some (.ref 1), none, some (.int a3), some (.int a4), some (.int r12)] k16_44 rfl (by decide) rfl ?_
      refine q_iload (pc := 46) k16_46 rfl ?_
      refine q_if_ne (pc := 48) 58 k16_48 (by decide) (fun g13 => ?_) (fun g13 => ?_)
      · replace h := h.1 g13
        refine q_iinc (pc := 58) (v := a4 + 1) [some (.ref 3), some (.ref 1), none, some (.int a3), some (.int (a4 + 1)), some (.int r12)] k16_58 rfl rfl rfl (by decide) rfl ?_
        refine q_goto (pc := 61) 14 k16_61 (by decide) ?_
        exact q_forget [some (.ref 3), some (.ref 1), none, some (.int a3), some (.int (a4 + 1)), none] (q_subOk (And.intro rfl (And.intro rfl (And.intro rfl (And.intro rfl (trivial)))))) h
      · replace h := h.2 g13
        refine q_sipush (pc := 51) (v := (-1000)) k16_51 (by decide) ?_
        refine q_iload (pc := 54) k16_54 rfl ?_
        refine q_isub (pc := 56) k16_56 ?_
        exact q_ireturn (pc := 57) k16_57 rfl ⟨_, rfl, h⟩
set_option maxRecDepth 20000 in
theorem vc17 {X : Nat × (Nat → Int32)} {d : Nat} (hd : 0 < d) {M : q_M} {K : q_M → Prop} (h : q_Cv X (d - 1) 158 [.ref 7, .int (-1)] (q_set (q_set (q_set (q_set (q_set (q_set M 3 0 0) 3 1 0) 3 2 0) 3 3 0) 3 4 0) 3 11 0) (fun M1 => q_Cv X (d - 1) 158 [.ref 8, .int (-1)] M1 (fun M2 => K M2))) : q_Cv X d 17 [.ref 3] M K := by
  show q_Ex X d 17 0 [some (.ref 3)] [] M (q_rn K)
  refine q_aload_n (pc := 0) k17_0 rfl ?_
  refine q_iconst (pc := 1) (v := 0) k17_1 (by decide) ?_
  refine q_putI (pc := 2) k17_2 fp17_30 rfl rfl ?_
  refine q_aload_n (pc := 5) k17_5 rfl ?_
  refine q_iconst (pc := 6) (v := 0) k17_6 (by decide) ?_
  refine q_putI (pc := 7) k17_7 fp17_34 rfl rfl ?_
  refine q_aload_n (pc := 10) k17_10 rfl ?_
  refine q_iconst (pc := 11) (v := 0) k17_11 (by decide) ?_
  refine q_putI (pc := 12) k17_12 fp17_37 rfl rfl ?_
  refine q_aload_n (pc := 15) k17_15 rfl ?_
  refine q_iconst (pc := 16) (v := 0) k17_16 (by decide) ?_
  refine q_putI (pc := 17) k17_17 fp17_40 rfl rfl ?_
  refine q_aload_n (pc := 20) k17_20 rfl ?_
  refine q_iconst (pc := 21) (v := 0) k17_21 (by decide) ?_
  refine q_putI (pc := 22) k17_22 fp17_43 rfl rfl ?_
  refine q_aload_n (pc := 25) k17_25 rfl ?_
  refine q_iconst (pc := 26) (v := 0) k17_26 (by decide) ?_
  refine q_putI (pc := 27) k17_27 fp17_69 rfl rfl ?_
  refine q_aload_n (pc := 30) k17_30 rfl ?_
  refine q_getR (pc := 31) k17_31 fg17_21 rfl rfl ?_
  refine q_iconst (pc := 34) (v := (-1)) k17_34 (by decide) ?_
  refine q_invS (pc := 35) (As := [.ref 7, .int (-1)]) (st := []) k17_35 lm17_75 os158 rfl rfl (q_cat rfl) (Nat.le_of_ble_eq_true rfl) hd h ?_
  rintro v M1 ⟨rfl, h⟩
  show q_Ex X d 17 (35 + 3) [some (.ref 3)] [] M1 _
  refine q_aload_n (pc := 38) k17_38 rfl ?_
  refine q_getR (pc := 39) k17_39 fg17_24 rfl rfl ?_
  refine q_iconst (pc := 42) (v := (-1)) k17_42 (by decide) ?_
  refine q_invS (pc := 43) (As := [.ref 8, .int (-1)]) (st := []) k17_43 lm17_75 os158 rfl rfl (q_cat rfl) (Nat.le_of_ble_eq_true rfl) hd h ?_
  rintro v M2 ⟨rfl, h⟩
  show q_Ex X d 17 (43 + 3) [some (.ref 3)] [] M2 _
  exact q_return (pc := 46) k17_46 rfl ⟨rfl, h⟩
set_option maxRecDepth 20000 in
theorem vc18 {X : Nat × (Nat → Int32)} {d : Nat} {M : q_M} {K : Int32 → q_M → Prop} (h : ((¬ (M 3 1) = 0) → (((¬ (M 3 11) = (M 3 1)) → (K 0 M)) ∧ (((M 3 11) = (M 3 1)) → (((((M 3 0) + 1) < 6) → (K 1 (q_set (q_set (q_set M 3 1 (M 3 11)) 3 0 ((M 3 0) + 1)) 3 11 0))) ∧ ((¬ ((M 3 0) + 1) < 6) → (K 0 M)))))) ∧ (((M 3 1) = 0) → ((((M 3 11) < 2) → (K 0 M)) ∧ ((¬ (M 3 11) < 2) → (((((M 3 0) + 1) < 6) → (K 1 (q_set (q_set (q_set M 3 1 (M 3 11)) 3 0 ((M 3 0) + 1)) 3 11 0))) ∧ ((¬ ((M 3 0) + 1) < 6) → (K 0 M))))))) : q_Ci X d 18 [.ref 3] M K := by
  show q_Ex X d 18 0 [some (.ref 3), none] [] M (q_ri K)
  refine q_aload_n (pc := 0) k18_0 rfl ?_
  refine q_getIv (pc := 1) (v := M 3 1) k18_1 fg18_34 rfl rfl rfl ?_
  refine q_if_ne (pc := 4) 23 k18_4 (by decide) (fun g1 => ?_) (fun g1 => ?_)
  · replace h := h.1 g1
    refine q_aload_n (pc := 23) k18_23 rfl ?_
    refine q_getIv (pc := 24) (v := M 3 11) k18_24 fg18_69 rfl rfl rfl ?_
    refine q_aload_n (pc := 27) k18_27 rfl ?_
    refine q_getIv (pc := 28) (v := M 3 1) k18_28 fg18_34 rfl rfl rfl ?_
    refine q_icmp_ne (pc := 31) 38 k18_31 (by decide) (fun g2 => ?_) (fun g2 => ?_)
    · replace h := h.1 g2
      refine q_iconst (pc := 38) (v := 0) k18_38 (by decide) ?_
      refine q_istore_n (pc := 39) [some (.ref 3), some (.int 0)] k18_39 rfl (by decide) rfl ?_
      refine q_iload_n (pc := 40) k18_40 rfl ?_
      refine q_if_eq (pc := 41) 55 k18_41 (by decide) (fun _ => ?_) (fun g => absurd g (by decide))
      refine q_iconst (pc := 55) (v := 0) k18_55 (by decide) ?_
      exact q_zreturn (pc := 56) k18_56 rfl (by decide) ⟨_, rfl, h⟩
    · replace h := h.2 g2
      refine q_iconst (pc := 34) (v := 1) k18_34 (by decide) ?_
      refine q_goto (pc := 35) 39 k18_35 (by decide) ?_
      refine q_istore_n (pc := 39) [some (.ref 3), some (.int 1)] k18_39 rfl (by decide) rfl ?_
      refine q_iload_n (pc := 40) k18_40 rfl ?_
      refine q_if_eq (pc := 41) 55 k18_41 (by decide) (fun g => absurd g (by decide)) (fun _ => ?_)
      refine q_aload_n (pc := 44) k18_44 rfl ?_
      refine q_getIv (pc := 45) (v := M 3 0) k18_45 fg18_30 rfl rfl rfl ?_
      refine q_iconst (pc := 48) (v := 1) k18_48 (by decide) ?_
      refine q_iadd (pc := 49) k18_49 ?_
      refine q_bipush (pc := 50) (v := 6) k18_50 (by decide) ?_
      refine q_icmp_lt (pc := 52) 57 k18_52 (by decide) (fun g3 => ?_) (fun g3 => ?_)
      · replace h := h.1 g3
        refine q_aload_n (pc := 57) k18_57 rfl ?_
        refine q_aload_n (pc := 58) k18_58 rfl ?_
        refine q_getIv (pc := 59) (v := M 3 11) k18_59 fg18_69 rfl rfl rfl ?_
        refine q_putI (pc := 62) k18_62 fp18_34 rfl rfl ?_
        refine q_aload_n (pc := 65) k18_65 rfl ?_
        refine q_dup (pc := 66) k18_66 rfl ?_
        refine q_getIv (pc := 67) (v := M 3 0) k18_67 fg18_30 rfl rfl rfl ?_
        refine q_iconst (pc := 70) (v := 1) k18_70 (by decide) ?_
        refine q_iadd (pc := 71) k18_71 ?_
        refine q_putI (pc := 72) k18_72 fp18_30 rfl rfl ?_
        refine q_aload_n (pc := 75) k18_75 rfl ?_
        refine q_iconst (pc := 76) (v := 0) k18_76 (by decide) ?_
        refine q_putI (pc := 77) k18_77 fp18_69 rfl rfl ?_
        refine q_iconst (pc := 80) (v := 1) k18_80 (by decide) ?_
        exact q_zreturn (pc := 81) k18_81 rfl (by decide) ⟨_, rfl, h⟩
      · replace h := h.2 g3
        refine q_iconst (pc := 55) (v := 0) k18_55 (by decide) ?_
        exact q_zreturn (pc := 56) k18_56 rfl (by decide) ⟨_, rfl, h⟩
  · replace h := h.2 g1
    refine q_aload_n (pc := 7) k18_7 rfl ?_
    refine q_getIv (pc := 8) (v := M 3 11) k18_8 fg18_69 rfl rfl rfl ?_
    refine q_iconst (pc := 11) (v := 2) k18_11 (by decide) ?_
    refine q_icmp_lt (pc := 12) 19 k18_12 (by decide) (fun g4 => ?_) (fun g4 => ?_)
    · replace h := h.1 g4
      refine q_iconst (pc := 19) (v := 0) k18_19 (by decide) ?_
      refine q_goto (pc := 20) 39 k18_20 (by decide) ?_
      refine q_istore_n (pc := 39) [some (.ref 3), some (.int 0)] k18_39 rfl (by decide) rfl ?_
      refine q_iload_n (pc := 40) k18_40 rfl ?_
      refine q_if_eq (pc := 41) 55 k18_41 (by decide) (fun _ => ?_) (fun g => absurd g (by decide))
      refine q_iconst (pc := 55) (v := 0) k18_55 (by decide) ?_
      exact q_zreturn (pc := 56) k18_56 rfl (by decide) ⟨_, rfl, h⟩
    · replace h := h.2 g4
      refine q_iconst (pc := 15) (v := 1) k18_15 (by decide) ?_
      refine q_goto (pc := 16) 39 k18_16 (by decide) ?_
      refine q_istore_n (pc := 39) [some (.ref 3), some (.int 1)] k18_39 rfl (by decide) rfl ?_
      refine q_iload_n (pc := 40) k18_40 rfl ?_
      refine q_if_eq (pc := 41) 55 k18_41 (by decide) (fun g => absurd g (by decide)) (fun _ => ?_)
      refine q_aload_n (pc := 44) k18_44 rfl ?_
      refine q_getIv (pc := 45) (v := M 3 0) k18_45 fg18_30 rfl rfl rfl ?_
      refine q_iconst (pc := 48) (v := 1) k18_48 (by decide) ?_
      refine q_iadd (pc := 49) k18_49 ?_
      refine q_bipush (pc := 50) (v := 6) k18_50 (by decide) ?_
      refine q_icmp_lt (pc := 52) 57 k18_52 (by decide) (fun g5 => ?_) (fun g5 => ?_)
      · replace h := h.1 g5
        refine q_aload_n (pc := 57) k18_57 rfl ?_
        refine q_aload_n (pc := 58) k18_58 rfl ?_
        refine q_getIv (pc := 59) (v := M 3 11) k18_59 fg18_69 rfl rfl rfl ?_
        refine q_putI (pc := 62) k18_62 fp18_34 rfl rfl ?_
        refine q_aload_n (pc := 65) k18_65 rfl ?_
        refine q_dup (pc := 66) k18_66 rfl ?_
        refine q_getIv (pc := 67) (v := M 3 0) k18_67 fg18_30 rfl rfl rfl ?_
        refine q_iconst (pc := 70) (v := 1) k18_70 (by decide) ?_
        refine q_iadd (pc := 71) k18_71 ?_
        refine q_putI (pc := 72) k18_72 fp18_30 rfl rfl ?_
        refine q_aload_n (pc := 75) k18_75 rfl ?_
        refine q_iconst (pc := 76) (v := 0) k18_76 (by decide) ?_
        refine q_putI (pc := 77) k18_77 fp18_69 rfl rfl ?_
        refine q_iconst (pc := 80) (v := 1) k18_80 (by decide) ?_
        exact q_zreturn (pc := 81) k18_81 rfl (by decide) ⟨_, rfl, h⟩
      · replace h := h.2 g5
        refine q_iconst (pc := 55) (v := 0) k18_55 (by decide) ?_
        exact q_zreturn (pc := 56) k18_56 rfl (by decide) ⟨_, rfl, h⟩
set_option maxRecDepth 20000 in
theorem vc19 {X : Nat × (Nat → Int32)} {d : Nat} (hd : 0 < d) {M : q_M} {a1 : Int32} {K : Int32 → q_M → Prop} (h : ((¬ (M 3 1) = 0) → ((((M 3 1) ≤ (M 3 11)) → (K 0 M)) ∧ ((¬ (M 3 1) ≤ (M 3 11)) → ((((M 3 2) < 30) → (((¬ a1 = 46) → (((a1 < 49) → (((¬ a1 = 35) → (((a1 < 97) → (((a1 < 120) → (K 0 M)) ∧ ((¬ a1 < 120) → (((122 < a1) → (K 0 M)) ∧ ((¬ 122 < a1) → (q_Ci X (d - 1) 20 [.ref 3, .int 3, .int (a1 - 120), .ref 8] M (fun r11 M10 => (r11 = 0 ∨ r11 = 1) ∧ K r11 M10))))))) ∧ ((¬ a1 < 97) → (((99 < a1) → (((a1 < 120) → (K 0 M)) ∧ ((¬ a1 < 120) → (((122 < a1) → (K 0 M)) ∧ ((¬ 122 < a1) → (q_Ci X (d - 1) 20 [.ref 3, .int 3, .int (a1 - 120), .ref 8] M (fun r16 M15 => (r16 = 0 ∨ r16 = 1) ∧ K r16 M15))))))) ∧ ((¬ 99 < a1) → (q_Ci X (d - 1) 20 [.ref 3, .int 2, .int (a1 - 97), .ref 7] M (fun r18 M17 => (r18 = 0 ∨ r18 = 1) ∧ K r18 M17))))))) ∧ ((a1 = 35) → (q_Ci X (d - 1) 21 [.ref 3, .int 1, .int 0, .int (-9)] (q_set M 3 3 ((M 3 3) + 1)) (fun r20 M19 => (r20 = 0 ∨ r20 = 1) ∧ K r20 M19))))) ∧ ((¬ a1 < 49) → (((57 < a1) → (((¬ a1 = 35) → (((a1 < 97) → (((a1 < 120) → (K 0 M)) ∧ ((¬ a1 < 120) → (((122 < a1) → (K 0 M)) ∧ ((¬ 122 < a1) → (q_Ci X (d - 1) 20 [.ref 3, .int 3, .int (a1 - 120), .ref 8] M (fun r27 M26 => (r27 = 0 ∨ r27 = 1) ∧ K r27 M26))))))) ∧ ((¬ a1 < 97) → (((99 < a1) → (((a1 < 120) → (K 0 M)) ∧ ((¬ a1 < 120) → (((122 < a1) → (K 0 M)) ∧ ((¬ 122 < a1) → (q_Ci X (d - 1) 20 [.ref 3, .int 3, .int (a1 - 120), .ref 8] M (fun r32 M31 => (r32 = 0 ∨ r32 = 1) ∧ K r32 M31))))))) ∧ ((¬ 99 < a1) → (q_Ci X (d - 1) 20 [.ref 3, .int 2, .int (a1 - 97), .ref 7] M (fun r34 M33 => (r34 = 0 ∨ r34 = 1) ∧ K r34 M33))))))) ∧ ((a1 = 35) → (q_Ci X (d - 1) 21 [.ref 3, .int 1, .int 0, .int (-9)] (q_set M 3 3 ((M 3 3) + 1)) (fun r36 M35 => (r36 = 0 ∨ r36 = 1) ∧ K r36 M35))))) ∧ ((¬ 57 < a1) → (q_Ci X (d - 1) 21 [.ref 3, .int 0, .int (a1 - 48), .int (-9)] M (fun r38 M37 => (r38 = 0 ∨ r38 = 1) ∧ K r38 M37))))))) ∧ ((a1 = 46) → (q_Ci X (d - 1) 21 [.ref 3, .int 0, .int 0, .int (-9)] M (fun r40 M39 => (r40 = 0 ∨ r40 = 1) ∧ K r40 M39))))) ∧ ((¬ (M 3 2) < 30) → (K 0 M)))))) ∧ (((M 3 1) = 0) → (((5 ≤ (M 3 11)) → (K 0 M)) ∧ ((¬ 5 ≤ (M 3 11)) → ((((M 3 2) < 30) → (((¬ a1 = 46) → (((a1 < 49) → (((¬ a1 = 35) → (((a1 < 97) → (((a1 < 120) → (K 0 M)) ∧ ((¬ a1 < 120) → (((122 < a1) → (K 0 M)) ∧ ((¬ 122 < a1) → (q_Ci X (d - 1) 20 [.ref 3, .int 3, .int (a1 - 120), .ref 8] M (fun r50 M49 => (r50 = 0 ∨ r50 = 1) ∧ K r50 M49))))))) ∧ ((¬ a1 < 97) → (((99 < a1) → (((a1 < 120) → (K 0 M)) ∧ ((¬ a1 < 120) → (((122 < a1) → (K 0 M)) ∧ ((¬ 122 < a1) → (q_Ci X (d - 1) 20 [.ref 3, .int 3, .int (a1 - 120), .ref 8] M (fun r55 M54 => (r55 = 0 ∨ r55 = 1) ∧ K r55 M54))))))) ∧ ((¬ 99 < a1) → (q_Ci X (d - 1) 20 [.ref 3, .int 2, .int (a1 - 97), .ref 7] M (fun r57 M56 => (r57 = 0 ∨ r57 = 1) ∧ K r57 M56))))))) ∧ ((a1 = 35) → (q_Ci X (d - 1) 21 [.ref 3, .int 1, .int 0, .int (-9)] (q_set M 3 3 ((M 3 3) + 1)) (fun r59 M58 => (r59 = 0 ∨ r59 = 1) ∧ K r59 M58))))) ∧ ((¬ a1 < 49) → (((57 < a1) → (((¬ a1 = 35) → (((a1 < 97) → (((a1 < 120) → (K 0 M)) ∧ ((¬ a1 < 120) → (((122 < a1) → (K 0 M)) ∧ ((¬ 122 < a1) → (q_Ci X (d - 1) 20 [.ref 3, .int 3, .int (a1 - 120), .ref 8] M (fun r66 M65 => (r66 = 0 ∨ r66 = 1) ∧ K r66 M65))))))) ∧ ((¬ a1 < 97) → (((99 < a1) → (((a1 < 120) → (K 0 M)) ∧ ((¬ a1 < 120) → (((122 < a1) → (K 0 M)) ∧ ((¬ 122 < a1) → (q_Ci X (d - 1) 20 [.ref 3, .int 3, .int (a1 - 120), .ref 8] M (fun r71 M70 => (r71 = 0 ∨ r71 = 1) ∧ K r71 M70))))))) ∧ ((¬ 99 < a1) → (q_Ci X (d - 1) 20 [.ref 3, .int 2, .int (a1 - 97), .ref 7] M (fun r73 M72 => (r73 = 0 ∨ r73 = 1) ∧ K r73 M72))))))) ∧ ((a1 = 35) → (q_Ci X (d - 1) 21 [.ref 3, .int 1, .int 0, .int (-9)] (q_set M 3 3 ((M 3 3) + 1)) (fun r75 M74 => (r75 = 0 ∨ r75 = 1) ∧ K r75 M74))))) ∧ ((¬ 57 < a1) → (q_Ci X (d - 1) 21 [.ref 3, .int 0, .int (a1 - 48), .int (-9)] M (fun r77 M76 => (r77 = 0 ∨ r77 = 1) ∧ K r77 M76))))))) ∧ ((a1 = 46) → (q_Ci X (d - 1) 21 [.ref 3, .int 0, .int 0, .int (-9)] M (fun r79 M78 => (r79 = 0 ∨ r79 = 1) ∧ K r79 M78))))) ∧ ((¬ (M 3 2) < 30) → (K 0 M))))))) : q_Ci X d 19 [.ref 3, .int a1] M K := by
  show q_Ex X d 19 0 [some (.ref 3), some (.int a1), none] [] M (q_ri K)
  refine q_aload_n (pc := 0) k19_0 rfl ?_
  refine q_getIv (pc := 1) (v := M 3 1) k19_1 fg19_34 rfl rfl rfl ?_
  refine q_if_ne (pc := 4) 11 k19_4 (by decide) (fun g1 => ?_) (fun g1 => ?_)
  · replace h := h.1 g1
    refine q_aload_n (pc := 11) k19_11 rfl ?_
    refine q_getIv (pc := 12) (v := M 3 1) k19_12 fg19_34 rfl rfl rfl ?_
    refine q_istore_n (pc := 15) [some (.ref 3), some (.int a1), some (.int (M 3 1))] k19_15 rfl (by decide) rfl ?_
    refine q_aload_n (pc := 16) k19_16 rfl ?_
    refine q_getIv (pc := 17) (v := M 3 11) k19_17 fg19_69 rfl rfl rfl ?_
    refine q_iload_n (pc := 20) k19_20 rfl ?_
    refine q_icmp_ge (pc := 21) 33 k19_21 (by decide) (fun g2 => ?_) (fun g2 => ?_)
    · replace h := h.1 g2
      refine q_iconst (pc := 33) (v := 0) k19_33 (by decide) ?_
      exact q_zreturn (pc := 34) k19_34 rfl (by decide) ⟨_, rfl, h⟩
    · replace h := h.2 g2
      refine q_aload_n (pc := 24) k19_24 rfl ?_
      refine q_getIv (pc := 25) (v := M 3 2) k19_25 fg19_37 rfl rfl rfl ?_
      refine q_bipush (pc := 28) (v := 30) k19_28 (by decide) ?_
      refine q_icmp_lt (pc := 30) 35 k19_30 (by decide) (fun g3 => ?_) (fun g3 => ?_)
      · replace h := h.1 g3
        refine q_iload_n (pc := 35) k19_35 rfl ?_
        refine q_bipush (pc := 36) (v := 46) k19_36 (by decide) ?_
        refine q_icmp_ne (pc := 38) 50 k19_38 (by decide) (fun g4 => ?_) (fun g4 => ?_)
        · replace h := h.1 g4
          refine q_iload_n (pc := 50) k19_50 rfl ?_
          refine q_bipush (pc := 51) (v := 49) k19_51 (by decide) ?_
          refine q_icmp_lt (pc := 53) 74 k19_53 (by decide) (fun g5 => ?_) (fun g5 => ?_)
          · replace h := h.1 g5
            refine q_iload_n (pc := 74) k19_74 rfl ?_
            refine q_bipush (pc := 75) (v := 35) k19_75 (by decide) ?_
            refine q_icmp_ne (pc := 77) 99 k19_77 (by decide) (fun g6 => ?_) (fun g6 => ?_)
            · replace h := h.1 g6
              refine q_iload_n (pc := 99) k19_99 rfl ?_
              refine q_bipush (pc := 100) (v := 97) k19_100 (by decide) ?_
              refine q_icmp_lt (pc := 102) 125 k19_102 (by decide) (fun g7 => ?_) (fun g7 => ?_)
              · replace h := h.1 g7
                refine q_iload_n (pc := 125) k19_125 rfl ?_
                refine q_bipush (pc := 126) (v := 120) k19_126 (by decide) ?_
                refine q_icmp_lt (pc := 128) 151 k19_128 (by decide) (fun g8 => ?_) (fun g8 => ?_)
                · replace h := h.1 g8
                  refine q_iconst (pc := 151) (v := 0) k19_151 (by decide) ?_
                  exact q_zreturn (pc := 152) k19_152 rfl (by decide) ⟨_, rfl, h⟩
                · replace h := h.2 g8
                  refine q_iload_n (pc := 131) k19_131 rfl ?_
                  refine q_bipush (pc := 132) (v := 122) k19_132 (by decide) ?_
                  refine q_icmp_gt (pc := 134) 151 k19_134 (by decide) (fun g9 => ?_) (fun g9 => ?_)
                  · replace h := h.1 g9
                    refine q_iconst (pc := 151) (v := 0) k19_151 (by decide) ?_
                    exact q_zreturn (pc := 152) k19_152 rfl (by decide) ⟨_, rfl, h⟩
                  · replace h := h.2 g9
                    refine q_aload_n (pc := 137) k19_137 rfl ?_
                    refine q_iconst (pc := 138) (v := 3) k19_138 (by decide) ?_
                    refine q_iload_n (pc := 139) k19_139 rfl ?_
                    refine q_bipush (pc := 140) (v := 120) k19_140 (by decide) ?_
                    refine q_isub (pc := 142) k19_142 ?_
                    refine q_aload_n (pc := 143) k19_143 rfl ?_
                    refine q_getR (pc := 144) k19_144 fg19_24 rfl rfl ?_
                    refine q_invV (pc := 147) (As := [.int 3, .int (a1 - 120), .ref 8]) (st := []) k19_147 lm19_85 ov20 rfl rfl rfl (q_cat rfl) (Nat.le_of_ble_eq_true rfl) hd h ?_
                    rintro v M10 ⟨r11, rfl, h⟩
                    show q_Ex X d 19 (147 + 3) [some (.ref 3), some (.int a1), some (.int (M 3 1))] [.int r11] M10 _
                    exact q_zreturn (pc := 150) k19_150 rfl h.1 ⟨_, rfl, h.2⟩
              · replace h := h.2 g7
                refine q_iload_n (pc := 105) k19_105 rfl ?_
                refine q_bipush (pc := 106) (v := 99) k19_106 (by decide) ?_
                refine q_icmp_gt (pc := 108) 125 k19_108 (by decide) (fun g12 => ?_) (fun g12 => ?_)
                · replace h := h.1 g12
                  refine q_iload_n (pc := 125) k19_125 rfl ?_
                  refine q_bipush (pc := 126) (v := 120) k19_126 (by decide) ?_
                  refine q_icmp_lt (pc := 128) 151 k19_128 (by decide) (fun g13 => ?_) (fun g13 => ?_)
                  · replace h := h.1 g13
                    refine q_iconst (pc := 151) (v := 0) k19_151 (by decide) ?_
                    exact q_zreturn (pc := 152) k19_152 rfl (by decide) ⟨_, rfl, h⟩
                  · replace h := h.2 g13
                    refine q_iload_n (pc := 131) k19_131 rfl ?_
                    refine q_bipush (pc := 132) (v := 122) k19_132 (by decide) ?_
                    refine q_icmp_gt (pc := 134) 151 k19_134 (by decide) (fun g14 => ?_) (fun g14 => ?_)
                    · replace h := h.1 g14
                      refine q_iconst (pc := 151) (v := 0) k19_151 (by decide) ?_
                      exact q_zreturn (pc := 152) k19_152 rfl (by decide) ⟨_, rfl, h⟩
                    · replace h := h.2 g14
                      refine q_aload_n (pc := 137) k19_137 rfl ?_
                      refine q_iconst (pc := 138) (v := 3) k19_138 (by decide) ?_
                      refine q_iload_n (pc := 139) k19_139 rfl ?_
                      refine q_bipush (pc := 140) (v := 120) k19_140 (by decide) ?_
                      refine q_isub (pc := 142) k19_142 ?_
                      refine q_aload_n (pc := 143) k19_143 rfl ?_
                      refine q_getR (pc := 144) k19_144 fg19_24 rfl rfl ?_
                      refine q_invV (pc := 147) (As := [.int 3, .int (a1 - 120), .ref 8]) (st := []) k19_147 lm19_85 ov20 rfl rfl rfl (q_cat rfl) (Nat.le_of_ble_eq_true rfl) hd h ?_
                      rintro v M15 ⟨r16, rfl, h⟩
                      show q_Ex X d 19 (147 + 3) [some (.ref 3), some (.int a1), some (.int (M 3 1))] [.int r16] M15 _
                      exact q_zreturn (pc := 150) k19_150 rfl h.1 ⟨_, rfl, h.2⟩
                · replace h := h.2 g12
                  refine q_aload_n (pc := 111) k19_111 rfl ?_
                  refine q_iconst (pc := 112) (v := 2) k19_112 (by decide) ?_
                  refine q_iload_n (pc := 113) k19_113 rfl ?_
                  refine q_bipush (pc := 114) (v := 97) k19_114 (by decide) ?_
                  refine q_isub (pc := 116) k19_116 ?_
                  refine q_aload_n (pc := 117) k19_117 rfl ?_
                  refine q_getR (pc := 118) k19_118 fg19_21 rfl rfl ?_
                  refine q_invV (pc := 121) (As := [.int 2, .int (a1 - 97), .ref 7]) (st := []) k19_121 lm19_85 ov20 rfl rfl rfl (q_cat rfl) (Nat.le_of_ble_eq_true rfl) hd h ?_
                  rintro v M17 ⟨r18, rfl, h⟩
                  show q_Ex X d 19 (121 + 3) [some (.ref 3), some (.int a1), some (.int (M 3 1))] [.int r18] M17 _
                  exact q_zreturn (pc := 124) k19_124 rfl h.1 ⟨_, rfl, h.2⟩
            · replace h := h.2 g6
              refine q_aload_n (pc := 80) k19_80 rfl ?_
              refine q_dup (pc := 81) k19_81 rfl ?_
              refine q_getIv (pc := 82) (v := M 3 3) k19_82 fg19_40 rfl rfl rfl ?_
              refine q_iconst (pc := 85) (v := 1) k19_85 (by decide) ?_
              refine q_iadd (pc := 86) k19_86 ?_
              refine q_putI (pc := 87) k19_87 fp19_40 rfl rfl ?_
              refine q_aload_n (pc := 90) k19_90 rfl ?_
              refine q_iconst (pc := 91) (v := 1) k19_91 (by decide) ?_
              refine q_iconst (pc := 92) (v := 0) k19_92 (by decide) ?_
              refine q_bipush (pc := 93) (v := (-9)) k19_93 (by decide) ?_
              refine q_invV (pc := 95) (As := [.int 1, .int 0, .int (-9)]) (st := []) k19_95 lm19_81 ov21 rfl rfl rfl (q_cat rfl) (Nat.le_of_ble_eq_true rfl) hd h ?_
              rintro v M19 ⟨r20, rfl, h⟩
              show q_Ex X d 19 (95 + 3) [some (.ref 3), some (.int a1), some (.int (M 3 1))] [.int r20] M19 _
              exact q_zreturn (pc := 98) k19_98 rfl h.1 ⟨_, rfl, h.2⟩
          · replace h := h.2 g5
            refine q_iload_n (pc := 56) k19_56 rfl ?_
            refine q_bipush (pc := 57) (v := 57) k19_57 (by decide) ?_
            refine q_icmp_gt (pc := 59) 74 k19_59 (by decide) (fun g21 => ?_) (fun g21 => ?_)
            · replace h := h.1 g21
              refine q_iload_n (pc := 74) k19_74 rfl ?_
              refine q_bipush (pc := 75) (v := 35) k19_75 (by decide) ?_
              refine q_icmp_ne (pc := 77) 99 k19_77 (by decide) (fun g22 => ?_) (fun g22 => ?_)
              · replace h := h.1 g22
                refine q_iload_n (pc := 99) k19_99 rfl ?_
                refine q_bipush (pc := 100) (v := 97) k19_100 (by decide) ?_
                refine q_icmp_lt (pc := 102) 125 k19_102 (by decide) (fun g23 => ?_) (fun g23 => ?_)
                · replace h := h.1 g23
                  refine q_iload_n (pc := 125) k19_125 rfl ?_
                  refine q_bipush (pc := 126) (v := 120) k19_126 (by decide) ?_
                  refine q_icmp_lt (pc := 128) 151 k19_128 (by decide) (fun g24 => ?_) (fun g24 => ?_)
                  · replace h := h.1 g24
                    refine q_iconst (pc := 151) (v := 0) k19_151 (by decide) ?_
                    exact q_zreturn (pc := 152) k19_152 rfl (by decide) ⟨_, rfl, h⟩
                  · replace h := h.2 g24
                    refine q_iload_n (pc := 131) k19_131 rfl ?_
                    refine q_bipush (pc := 132) (v := 122) k19_132 (by decide) ?_
                    refine q_icmp_gt (pc := 134) 151 k19_134 (by decide) (fun g25 => ?_) (fun g25 => ?_)
                    · replace h := h.1 g25
                      refine q_iconst (pc := 151) (v := 0) k19_151 (by decide) ?_
                      exact q_zreturn (pc := 152) k19_152 rfl (by decide) ⟨_, rfl, h⟩
                    · replace h := h.2 g25
                      refine q_aload_n (pc := 137) k19_137 rfl ?_
                      refine q_iconst (pc := 138) (v := 3) k19_138 (by decide) ?_
                      refine q_iload_n (pc := 139) k19_139 rfl ?_
                      refine q_bipush (pc := 140) (v := 120) k19_140 (by decide) ?_
                      refine q_isub (pc := 142) k19_142 ?_
                      refine q_aload_n (pc := 143) k19_143 rfl ?_
                      refine q_getR (pc := 144) k19_144 fg19_24 rfl rfl ?_
                      refine q_invV (pc := 147) (As := [.int 3, .int (a1 - 120), .ref 8]) (st := []) k19_147 lm19_85 ov20 rfl rfl rfl (q_cat rfl) (Nat.le_of_ble_eq_true rfl) hd h ?_
                      rintro v M26 ⟨r27, rfl, h⟩
                      show q_Ex X d 19 (147 + 3) [some (.ref 3), some (.int a1), some (.int (M 3 1))] [.int r27] M26 _
                      exact q_zreturn (pc := 150) k19_150 rfl h.1 ⟨_, rfl, h.2⟩
                · replace h := h.2 g23
                  refine q_iload_n (pc := 105) k19_105 rfl ?_
                  refine q_bipush (pc := 106) (v := 99) k19_106 (by decide) ?_
                  refine q_icmp_gt (pc := 108) 125 k19_108 (by decide) (fun g28 => ?_) (fun g28 => ?_)
                  · replace h := h.1 g28
                    refine q_iload_n (pc := 125) k19_125 rfl ?_
                    refine q_bipush (pc := 126) (v := 120) k19_126 (by decide) ?_
                    refine q_icmp_lt (pc := 128) 151 k19_128 (by decide) (fun g29 => ?_) (fun g29 => ?_)
                    · replace h := h.1 g29
                      refine q_iconst (pc := 151) (v := 0) k19_151 (by decide) ?_
                      exact q_zreturn (pc := 152) k19_152 rfl (by decide) ⟨_, rfl, h⟩
                    · replace h := h.2 g29
                      refine q_iload_n (pc := 131) k19_131 rfl ?_
                      refine q_bipush (pc := 132) (v := 122) k19_132 (by decide) ?_
                      refine q_icmp_gt (pc := 134) 151 k19_134 (by decide) (fun g30 => ?_) (fun g30 => ?_)
                      · replace h := h.1 g30
                        refine q_iconst (pc := 151) (v := 0) k19_151 (by decide) ?_
                        exact q_zreturn (pc := 152) k19_152 rfl (by decide) ⟨_, rfl, h⟩
                      · replace h := h.2 g30
                        refine q_aload_n (pc := 137) k19_137 rfl ?_
                        refine q_iconst (pc := 138) (v := 3) k19_138 (by decide) ?_
                        refine q_iload_n (pc := 139) k19_139 rfl ?_
                        refine q_bipush (pc := 140) (v := 120) k19_140 (by decide) ?_
                        refine q_isub (pc := 142) k19_142 ?_
                        refine q_aload_n (pc := 143) k19_143 rfl ?_
                        refine q_getR (pc := 144) k19_144 fg19_24 rfl rfl ?_
                        refine q_invV (pc := 147) (As := [.int 3, .int (a1 - 120), .ref 8]) (st := []) k19_147 lm19_85 ov20 rfl rfl rfl (q_cat rfl) (Nat.le_of_ble_eq_true rfl) hd h ?_
                        rintro v M31 ⟨r32, rfl, h⟩
                        show q_Ex X d 19 (147 + 3) [some (.ref 3), some (.int a1), some (.int (M 3 1))] [.int r32] M31 _
                        exact q_zreturn (pc := 150) k19_150 rfl h.1 ⟨_, rfl, h.2⟩
                  · replace h := h.2 g28
                    refine q_aload_n (pc := 111) k19_111 rfl ?_
                    refine q_iconst (pc := 112) (v := 2) k19_112 (by decide) ?_
                    refine q_iload_n (pc := 113) k19_113 rfl ?_
                    refine q_bipush (pc := 114) (v := 97) k19_114 (by decide) ?_
                    refine q_isub (pc := 116) k19_116 ?_
                    refine q_aload_n (pc := 117) k19_117 rfl ?_
                    refine q_getR (pc := 118) k19_118 fg19_21 rfl rfl ?_
                    refine q_invV (pc := 121) (As := [.int 2, .int (a1 - 97), .ref 7]) (st := []) k19_121 lm19_85 ov20 rfl rfl rfl (q_cat rfl) (Nat.le_of_ble_eq_true rfl) hd h ?_
                    rintro v M33 ⟨r34, rfl, h⟩
                    show q_Ex X d 19 (121 + 3) [some (.ref 3), some (.int a1), some (.int (M 3 1))] [.int r34] M33 _
                    exact q_zreturn (pc := 124) k19_124 rfl h.1 ⟨_, rfl, h.2⟩
              · replace h := h.2 g22
                refine q_aload_n (pc := 80) k19_80 rfl ?_
                refine q_dup (pc := 81) k19_81 rfl ?_
                refine q_getIv (pc := 82) (v := M 3 3) k19_82 fg19_40 rfl rfl rfl ?_
                refine q_iconst (pc := 85) (v := 1) k19_85 (by decide) ?_
                refine q_iadd (pc := 86) k19_86 ?_
                refine q_putI (pc := 87) k19_87 fp19_40 rfl rfl ?_
                refine q_aload_n (pc := 90) k19_90 rfl ?_
                refine q_iconst (pc := 91) (v := 1) k19_91 (by decide) ?_
                refine q_iconst (pc := 92) (v := 0) k19_92 (by decide) ?_
                refine q_bipush (pc := 93) (v := (-9)) k19_93 (by decide) ?_
                refine q_invV (pc := 95) (As := [.int 1, .int 0, .int (-9)]) (st := []) k19_95 lm19_81 ov21 rfl rfl rfl (q_cat rfl) (Nat.le_of_ble_eq_true rfl) hd h ?_
                rintro v M35 ⟨r36, rfl, h⟩
                show q_Ex X d 19 (95 + 3) [some (.ref 3), some (.int a1), some (.int (M 3 1))] [.int r36] M35 _
                exact q_zreturn (pc := 98) k19_98 rfl h.1 ⟨_, rfl, h.2⟩
            · replace h := h.2 g21
              refine q_aload_n (pc := 62) k19_62 rfl ?_
              refine q_iconst (pc := 63) (v := 0) k19_63 (by decide) ?_
              refine q_iload_n (pc := 64) k19_64 rfl ?_
              refine q_bipush (pc := 65) (v := 48) k19_65 (by decide) ?_
              refine q_isub (pc := 67) k19_67 ?_
              refine q_bipush (pc := 68) (v := (-9)) k19_68 (by decide) ?_
              refine q_invV (pc := 70) (As := [.int 0, .int (a1 - 48), .int (-9)]) (st := []) k19_70 lm19_81 ov21 rfl rfl rfl (q_cat rfl) (Nat.le_of_ble_eq_true rfl) hd h ?_
              rintro v M37 ⟨r38, rfl, h⟩
              show q_Ex X d 19 (70 + 3) [some (.ref 3), some (.int a1), some (.int (M 3 1))] [.int r38] M37 _
              exact q_zreturn (pc := 73) k19_73 rfl h.1 ⟨_, rfl, h.2⟩
        · replace h := h.2 g4
          refine q_aload_n (pc := 41) k19_41 rfl ?_
          refine q_iconst (pc := 42) (v := 0) k19_42 (by decide) ?_
          refine q_iconst (pc := 43) (v := 0) k19_43 (by decide) ?_
          refine q_bipush (pc := 44) (v := (-9)) k19_44 (by decide) ?_
          refine q_invV (pc := 46) (As := [.int 0, .int 0, .int (-9)]) (st := []) k19_46 lm19_81 ov21 rfl rfl rfl (q_cat rfl) (Nat.le_of_ble_eq_true rfl) hd h ?_
          rintro v M39 ⟨r40, rfl, h⟩
          show q_Ex X d 19 (46 + 3) [some (.ref 3), some (.int a1), some (.int (M 3 1))] [.int r40] M39 _
          exact q_zreturn (pc := 49) k19_49 rfl h.1 ⟨_, rfl, h.2⟩
      · replace h := h.2 g3
        refine q_iconst (pc := 33) (v := 0) k19_33 (by decide) ?_
        exact q_zreturn (pc := 34) k19_34 rfl (by decide) ⟨_, rfl, h⟩
  · replace h := h.2 g1
    refine q_iconst (pc := 7) (v := 5) k19_7 (by decide) ?_
    refine q_goto (pc := 8) 15 k19_8 (by decide) ?_
    refine q_istore_n (pc := 15) [some (.ref 3), some (.int a1), some (.int 5)] k19_15 rfl (by decide) rfl ?_
    refine q_aload_n (pc := 16) k19_16 rfl ?_
    refine q_getIv (pc := 17) (v := M 3 11) k19_17 fg19_69 rfl rfl rfl ?_
    refine q_iload_n (pc := 20) k19_20 rfl ?_
    refine q_icmp_ge (pc := 21) 33 k19_21 (by decide) (fun g41 => ?_) (fun g41 => ?_)
    · replace h := h.1 g41
      refine q_iconst (pc := 33) (v := 0) k19_33 (by decide) ?_
      exact q_zreturn (pc := 34) k19_34 rfl (by decide) ⟨_, rfl, h⟩
    · replace h := h.2 g41
      refine q_aload_n (pc := 24) k19_24 rfl ?_
      refine q_getIv (pc := 25) (v := M 3 2) k19_25 fg19_37 rfl rfl rfl ?_
      refine q_bipush (pc := 28) (v := 30) k19_28 (by decide) ?_
      refine q_icmp_lt (pc := 30) 35 k19_30 (by decide) (fun g42 => ?_) (fun g42 => ?_)
      · replace h := h.1 g42
        refine q_iload_n (pc := 35) k19_35 rfl ?_
        refine q_bipush (pc := 36) (v := 46) k19_36 (by decide) ?_
        refine q_icmp_ne (pc := 38) 50 k19_38 (by decide) (fun g43 => ?_) (fun g43 => ?_)
        · replace h := h.1 g43
          refine q_iload_n (pc := 50) k19_50 rfl ?_
          refine q_bipush (pc := 51) (v := 49) k19_51 (by decide) ?_
          refine q_icmp_lt (pc := 53) 74 k19_53 (by decide) (fun g44 => ?_) (fun g44 => ?_)
          · replace h := h.1 g44
            refine q_iload_n (pc := 74) k19_74 rfl ?_
            refine q_bipush (pc := 75) (v := 35) k19_75 (by decide) ?_
            refine q_icmp_ne (pc := 77) 99 k19_77 (by decide) (fun g45 => ?_) (fun g45 => ?_)
            · replace h := h.1 g45
              refine q_iload_n (pc := 99) k19_99 rfl ?_
              refine q_bipush (pc := 100) (v := 97) k19_100 (by decide) ?_
              refine q_icmp_lt (pc := 102) 125 k19_102 (by decide) (fun g46 => ?_) (fun g46 => ?_)
              · replace h := h.1 g46
                refine q_iload_n (pc := 125) k19_125 rfl ?_
                refine q_bipush (pc := 126) (v := 120) k19_126 (by decide) ?_
                refine q_icmp_lt (pc := 128) 151 k19_128 (by decide) (fun g47 => ?_) (fun g47 => ?_)
                · replace h := h.1 g47
                  refine q_iconst (pc := 151) (v := 0) k19_151 (by decide) ?_
                  exact q_zreturn (pc := 152) k19_152 rfl (by decide) ⟨_, rfl, h⟩
                · replace h := h.2 g47
                  refine q_iload_n (pc := 131) k19_131 rfl ?_
                  refine q_bipush (pc := 132) (v := 122) k19_132 (by decide) ?_
                  refine q_icmp_gt (pc := 134) 151 k19_134 (by decide) (fun g48 => ?_) (fun g48 => ?_)
                  · replace h := h.1 g48
                    refine q_iconst (pc := 151) (v := 0) k19_151 (by decide) ?_
                    exact q_zreturn (pc := 152) k19_152 rfl (by decide) ⟨_, rfl, h⟩
                  · replace h := h.2 g48
                    refine q_aload_n (pc := 137) k19_137 rfl ?_
                    refine q_iconst (pc := 138) (v := 3) k19_138 (by decide) ?_
                    refine q_iload_n (pc := 139) k19_139 rfl ?_
                    refine q_bipush (pc := 140) (v := 120) k19_140 (by decide) ?_
                    refine q_isub (pc := 142) k19_142 ?_
                    refine q_aload_n (pc := 143) k19_143 rfl ?_
                    refine q_getR (pc := 144) k19_144 fg19_24 rfl rfl ?_
                    refine q_invV (pc := 147) (As := [.int 3, .int (a1 - 120), .ref 8]) (st := []) k19_147 lm19_85 ov20 rfl rfl rfl (q_cat rfl) (Nat.le_of_ble_eq_true rfl) hd h ?_
                    rintro v M49 ⟨r50, rfl, h⟩
                    show q_Ex X d 19 (147 + 3) [some (.ref 3), some (.int a1), some (.int 5)] [.int r50] M49 _
                    exact q_zreturn (pc := 150) k19_150 rfl h.1 ⟨_, rfl, h.2⟩
              · replace h := h.2 g46
                refine q_iload_n (pc := 105) k19_105 rfl ?_
                refine q_bipush (pc := 106) (v := 99) k19_106 (by decide) ?_
                refine q_icmp_gt (pc := 108) 125 k19_108 (by decide) (fun g51 => ?_) (fun g51 => ?_)
                · replace h := h.1 g51
                  refine q_iload_n (pc := 125) k19_125 rfl ?_
                  refine q_bipush (pc := 126) (v := 120) k19_126 (by decide) ?_
                  refine q_icmp_lt (pc := 128) 151 k19_128 (by decide) (fun g52 => ?_) (fun g52 => ?_)
                  · replace h := h.1 g52
                    refine q_iconst (pc := 151) (v := 0) k19_151 (by decide) ?_
                    exact q_zreturn (pc := 152) k19_152 rfl (by decide) ⟨_, rfl, h⟩
                  · replace h := h.2 g52
                    refine q_iload_n (pc := 131) k19_131 rfl ?_
                    refine q_bipush (pc := 132) (v := 122) k19_132 (by decide) ?_
                    refine q_icmp_gt (pc := 134) 151 k19_134 (by decide) (fun g53 => ?_) (fun g53 => ?_)
                    · replace h := h.1 g53
                      refine q_iconst (pc := 151) (v := 0) k19_151 (by decide) ?_
                      exact q_zreturn (pc := 152) k19_152 rfl (by decide) ⟨_, rfl, h⟩
                    · replace h := h.2 g53
                      refine q_aload_n (pc := 137) k19_137 rfl ?_
                      refine q_iconst (pc := 138) (v := 3) k19_138 (by decide) ?_
                      refine q_iload_n (pc := 139) k19_139 rfl ?_
                      refine q_bipush (pc := 140) (v := 120) k19_140 (by decide) ?_
                      refine q_isub (pc := 142) k19_142 ?_
                      refine q_aload_n (pc := 143) k19_143 rfl ?_
                      refine q_getR (pc := 144) k19_144 fg19_24 rfl rfl ?_
                      refine q_invV (pc := 147) (As := [.int 3, .int (a1 - 120), .ref 8]) (st := []) k19_147 lm19_85 ov20 rfl rfl rfl (q_cat rfl) (Nat.le_of_ble_eq_true rfl) hd h ?_
                      rintro v M54 ⟨r55, rfl, h⟩
                      show q_Ex X d 19 (147 + 3) [some (.ref 3), some (.int a1), some (.int 5)] [.int r55] M54 _
                      exact q_zreturn (pc := 150) k19_150 rfl h.1 ⟨_, rfl, h.2⟩
                · replace h := h.2 g51
                  refine q_aload_n (pc := 111) k19_111 rfl ?_
                  refine q_iconst (pc := 112) (v := 2) k19_112 (by decide) ?_
                  refine q_iload_n (pc := 113) k19_113 rfl ?_
                  refine q_bipush (pc := 114) (v := 97) k19_114 (by decide) ?_
                  refine q_isub (pc := 116) k19_116 ?_
                  refine q_aload_n (pc := 117) k19_117 rfl ?_
                  refine q_getR (pc := 118) k19_118 fg19_21 rfl rfl ?_
                  refine q_invV (pc := 121) (As := [.int 2, .int (a1 - 97), .ref 7]) (st := []) k19_121 lm19_85 ov20 rfl rfl rfl (q_cat rfl) (Nat.le_of_ble_eq_true rfl) hd h ?_
                  rintro v M56 ⟨r57, rfl, h⟩
                  show q_Ex X d 19 (121 + 3) [some (.ref 3), some (.int a1), some (.int 5)] [.int r57] M56 _
                  exact q_zreturn (pc := 124) k19_124 rfl h.1 ⟨_, rfl, h.2⟩
            · replace h := h.2 g45
              refine q_aload_n (pc := 80) k19_80 rfl ?_
              refine q_dup (pc := 81) k19_81 rfl ?_
              refine q_getIv (pc := 82) (v := M 3 3) k19_82 fg19_40 rfl rfl rfl ?_
              refine q_iconst (pc := 85) (v := 1) k19_85 (by decide) ?_
              refine q_iadd (pc := 86) k19_86 ?_
              refine q_putI (pc := 87) k19_87 fp19_40 rfl rfl ?_
              refine q_aload_n (pc := 90) k19_90 rfl ?_
              refine q_iconst (pc := 91) (v := 1) k19_91 (by decide) ?_
              refine q_iconst (pc := 92) (v := 0) k19_92 (by decide) ?_
              refine q_bipush (pc := 93) (v := (-9)) k19_93 (by decide) ?_
              refine q_invV (pc := 95) (As := [.int 1, .int 0, .int (-9)]) (st := []) k19_95 lm19_81 ov21 rfl rfl rfl (q_cat rfl) (Nat.le_of_ble_eq_true rfl) hd h ?_
              rintro v M58 ⟨r59, rfl, h⟩
              show q_Ex X d 19 (95 + 3) [some (.ref 3), some (.int a1), some (.int 5)] [.int r59] M58 _
              exact q_zreturn (pc := 98) k19_98 rfl h.1 ⟨_, rfl, h.2⟩
          · replace h := h.2 g44
            refine q_iload_n (pc := 56) k19_56 rfl ?_
            refine q_bipush (pc := 57) (v := 57) k19_57 (by decide) ?_
            refine q_icmp_gt (pc := 59) 74 k19_59 (by decide) (fun g60 => ?_) (fun g60 => ?_)
            · replace h := h.1 g60
              refine q_iload_n (pc := 74) k19_74 rfl ?_
              refine q_bipush (pc := 75) (v := 35) k19_75 (by decide) ?_
              refine q_icmp_ne (pc := 77) 99 k19_77 (by decide) (fun g61 => ?_) (fun g61 => ?_)
              · replace h := h.1 g61
                refine q_iload_n (pc := 99) k19_99 rfl ?_
                refine q_bipush (pc := 100) (v := 97) k19_100 (by decide) ?_
                refine q_icmp_lt (pc := 102) 125 k19_102 (by decide) (fun g62 => ?_) (fun g62 => ?_)
                · replace h := h.1 g62
                  refine q_iload_n (pc := 125) k19_125 rfl ?_
                  refine q_bipush (pc := 126) (v := 120) k19_126 (by decide) ?_
                  refine q_icmp_lt (pc := 128) 151 k19_128 (by decide) (fun g63 => ?_) (fun g63 => ?_)
                  · replace h := h.1 g63
                    refine q_iconst (pc := 151) (v := 0) k19_151 (by decide) ?_
                    exact q_zreturn (pc := 152) k19_152 rfl (by decide) ⟨_, rfl, h⟩
                  · replace h := h.2 g63
                    refine q_iload_n (pc := 131) k19_131 rfl ?_
                    refine q_bipush (pc := 132) (v := 122) k19_132 (by decide) ?_
                    refine q_icmp_gt (pc := 134) 151 k19_134 (by decide) (fun g64 => ?_) (fun g64 => ?_)
                    · replace h := h.1 g64
                      refine q_iconst (pc := 151) (v := 0) k19_151 (by decide) ?_
                      exact q_zreturn (pc := 152) k19_152 rfl (by decide) ⟨_, rfl, h⟩
                    · replace h := h.2 g64
                      refine q_aload_n (pc := 137) k19_137 rfl ?_
                      refine q_iconst (pc := 138) (v := 3) k19_138 (by decide) ?_
                      refine q_iload_n (pc := 139) k19_139 rfl ?_
                      refine q_bipush (pc := 140) (v := 120) k19_140 (by decide) ?_
                      refine q_isub (pc := 142) k19_142 ?_
                      refine q_aload_n (pc := 143) k19_143 rfl ?_
                      refine q_getR (pc := 144) k19_144 fg19_24 rfl rfl ?_
                      refine q_invV (pc := 147) (As := [.int 3, .int (a1 - 120), .ref 8]) (st := []) k19_147 lm19_85 ov20 rfl rfl rfl (q_cat rfl) (Nat.le_of_ble_eq_true rfl) hd h ?_
                      rintro v M65 ⟨r66, rfl, h⟩
                      show q_Ex X d 19 (147 + 3) [some (.ref 3), some (.int a1), some (.int 5)] [.int r66] M65 _
                      exact q_zreturn (pc := 150) k19_150 rfl h.1 ⟨_, rfl, h.2⟩
                · replace h := h.2 g62
                  refine q_iload_n (pc := 105) k19_105 rfl ?_
                  refine q_bipush (pc := 106) (v := 99) k19_106 (by decide) ?_
                  refine q_icmp_gt (pc := 108) 125 k19_108 (by decide) (fun g67 => ?_) (fun g67 => ?_)
                  · replace h := h.1 g67
                    refine q_iload_n (pc := 125) k19_125 rfl ?_
                    refine q_bipush (pc := 126) (v := 120) k19_126 (by decide) ?_
                    refine q_icmp_lt (pc := 128) 151 k19_128 (by decide) (fun g68 => ?_) (fun g68 => ?_)
                    · replace h := h.1 g68
                      refine q_iconst (pc := 151) (v := 0) k19_151 (by decide) ?_
                      exact q_zreturn (pc := 152) k19_152 rfl (by decide) ⟨_, rfl, h⟩
                    · replace h := h.2 g68
                      refine q_iload_n (pc := 131) k19_131 rfl ?_
                      refine q_bipush (pc := 132) (v := 122) k19_132 (by decide) ?_
                      refine q_icmp_gt (pc := 134) 151 k19_134 (by decide) (fun g69 => ?_) (fun g69 => ?_)
                      · replace h := h.1 g69
                        refine q_iconst (pc := 151) (v := 0) k19_151 (by decide) ?_
                        exact q_zreturn (pc := 152) k19_152 rfl (by decide) ⟨_, rfl, h⟩
                      · replace h := h.2 g69
                        refine q_aload_n (pc := 137) k19_137 rfl ?_
                        refine q_iconst (pc := 138) (v := 3) k19_138 (by decide) ?_
                        refine q_iload_n (pc := 139) k19_139 rfl ?_
                        refine q_bipush (pc := 140) (v := 120) k19_140 (by decide) ?_
                        refine q_isub (pc := 142) k19_142 ?_
                        refine q_aload_n (pc := 143) k19_143 rfl ?_
                        refine q_getR (pc := 144) k19_144 fg19_24 rfl rfl ?_
                        refine q_invV (pc := 147) (As := [.int 3, .int (a1 - 120), .ref 8]) (st := []) k19_147 lm19_85 ov20 rfl rfl rfl (q_cat rfl) (Nat.le_of_ble_eq_true rfl) hd h ?_
                        rintro v M70 ⟨r71, rfl, h⟩
                        show q_Ex X d 19 (147 + 3) [some (.ref 3), some (.int a1), some (.int 5)] [.int r71] M70 _
                        exact q_zreturn (pc := 150) k19_150 rfl h.1 ⟨_, rfl, h.2⟩
                  · replace h := h.2 g67
                    refine q_aload_n (pc := 111) k19_111 rfl ?_
                    refine q_iconst (pc := 112) (v := 2) k19_112 (by decide) ?_
                    refine q_iload_n (pc := 113) k19_113 rfl ?_
                    refine q_bipush (pc := 114) (v := 97) k19_114 (by decide) ?_
                    refine q_isub (pc := 116) k19_116 ?_
                    refine q_aload_n (pc := 117) k19_117 rfl ?_
                    refine q_getR (pc := 118) k19_118 fg19_21 rfl rfl ?_
                    refine q_invV (pc := 121) (As := [.int 2, .int (a1 - 97), .ref 7]) (st := []) k19_121 lm19_85 ov20 rfl rfl rfl (q_cat rfl) (Nat.le_of_ble_eq_true rfl) hd h ?_
                    rintro v M72 ⟨r73, rfl, h⟩
                    show q_Ex X d 19 (121 + 3) [some (.ref 3), some (.int a1), some (.int 5)] [.int r73] M72 _
                    exact q_zreturn (pc := 124) k19_124 rfl h.1 ⟨_, rfl, h.2⟩
              · replace h := h.2 g61
                refine q_aload_n (pc := 80) k19_80 rfl ?_
                refine q_dup (pc := 81) k19_81 rfl ?_
                refine q_getIv (pc := 82) (v := M 3 3) k19_82 fg19_40 rfl rfl rfl ?_
                refine q_iconst (pc := 85) (v := 1) k19_85 (by decide) ?_
                refine q_iadd (pc := 86) k19_86 ?_
                refine q_putI (pc := 87) k19_87 fp19_40 rfl rfl ?_
                refine q_aload_n (pc := 90) k19_90 rfl ?_
                refine q_iconst (pc := 91) (v := 1) k19_91 (by decide) ?_
                refine q_iconst (pc := 92) (v := 0) k19_92 (by decide) ?_
                refine q_bipush (pc := 93) (v := (-9)) k19_93 (by decide) ?_
                refine q_invV (pc := 95) (As := [.int 1, .int 0, .int (-9)]) (st := []) k19_95 lm19_81 ov21 rfl rfl rfl (q_cat rfl) (Nat.le_of_ble_eq_true rfl) hd h ?_
                rintro v M74 ⟨r75, rfl, h⟩
                show q_Ex X d 19 (95 + 3) [some (.ref 3), some (.int a1), some (.int 5)] [.int r75] M74 _
                exact q_zreturn (pc := 98) k19_98 rfl h.1 ⟨_, rfl, h.2⟩
            · replace h := h.2 g60
              refine q_aload_n (pc := 62) k19_62 rfl ?_
              refine q_iconst (pc := 63) (v := 0) k19_63 (by decide) ?_
              refine q_iload_n (pc := 64) k19_64 rfl ?_
              refine q_bipush (pc := 65) (v := 48) k19_65 (by decide) ?_
              refine q_isub (pc := 67) k19_67 ?_
              refine q_bipush (pc := 68) (v := (-9)) k19_68 (by decide) ?_
              refine q_invV (pc := 70) (As := [.int 0, .int (a1 - 48), .int (-9)]) (st := []) k19_70 lm19_81 ov21 rfl rfl rfl (q_cat rfl) (Nat.le_of_ble_eq_true rfl) hd h ?_
              rintro v M76 ⟨r77, rfl, h⟩
              show q_Ex X d 19 (70 + 3) [some (.ref 3), some (.int a1), some (.int 5)] [.int r77] M76 _
              exact q_zreturn (pc := 73) k19_73 rfl h.1 ⟨_, rfl, h.2⟩
        · replace h := h.2 g43
          refine q_aload_n (pc := 41) k19_41 rfl ?_
          refine q_iconst (pc := 42) (v := 0) k19_42 (by decide) ?_
          refine q_iconst (pc := 43) (v := 0) k19_43 (by decide) ?_
          refine q_bipush (pc := 44) (v := (-9)) k19_44 (by decide) ?_
          refine q_invV (pc := 46) (As := [.int 0, .int 0, .int (-9)]) (st := []) k19_46 lm19_81 ov21 rfl rfl rfl (q_cat rfl) (Nat.le_of_ble_eq_true rfl) hd h ?_
          rintro v M78 ⟨r79, rfl, h⟩
          show q_Ex X d 19 (46 + 3) [some (.ref 3), some (.int a1), some (.int 5)] [.int r79] M78 _
          exact q_zreturn (pc := 49) k19_49 rfl h.1 ⟨_, rfl, h.2⟩
      · replace h := h.2 g42
        refine q_iconst (pc := 33) (v := 0) k19_33 (by decide) ?_
        exact q_zreturn (pc := 34) k19_34 rfl (by decide) ⟨_, rfl, h⟩
set_option maxRecDepth 20000 in
theorem vc21 {X : Nat × (Nat → Int32)} {d : Nat} {M : q_M} {a1 a2 a3 : Int32} {K : Int32 → q_M → Prop} (h : vp_in (M 3 2) 30 ∧ (vp_in (M 3 2) 30 ∧ (vp_in (M 3 2) 30 ∧ (K 1 (q_set (q_set (q_set (q_set (q_set M 4 (Int32.toNatClampNeg (M 3 2)) a1) 5 (Int32.toNatClampNeg (M 3 2)) a2) 6 (Int32.toNatClampNeg (M 3 2)) a3) 3 2 ((M 3 2) + 1)) 3 11 ((M 3 11) + 1)))))) : q_Ci X d 21 [.ref 3, .int a1, .int a2, .int a3] M K := by
  show q_Ex X d 21 0 [some (.ref 3), some (.int a1), some (.int a2), some (.int a3)] [] M (q_ri K)
  refine q_aload_n (pc := 0) k21_0 rfl ?_
  refine q_getR (pc := 1) k21_1 fg21_9 rfl rfl ?_
  refine q_aload_n (pc := 4) k21_4 rfl ?_
  refine q_getIv (pc := 5) (v := M 3 2) k21_5 fg21_37 rfl rfl rfl ?_
  refine q_iload_n (pc := 8) k21_8 rfl ?_
  refine q_iastv (pc := 9) (k := (Int32.toNatClampNeg (M 3 2))) k21_9 rfl h.1 rfl ?_
  replace h := h.2
  refine q_aload_n (pc := 10) k21_10 rfl ?_
  refine q_getR (pc := 11) k21_11 fg21_15 rfl rfl ?_
  refine q_aload_n (pc := 14) k21_14 rfl ?_
  refine q_getIv (pc := 15) (v := M 3 2) k21_15 fg21_37 rfl rfl rfl ?_
  refine q_iload_n (pc := 18) k21_18 rfl ?_
  refine q_iastv (pc := 19) (k := (Int32.toNatClampNeg (M 3 2))) k21_19 rfl h.1 rfl ?_
  replace h := h.2
  refine q_aload_n (pc := 20) k21_20 rfl ?_
  refine q_getR (pc := 21) k21_21 fg21_18 rfl rfl ?_
  refine q_aload_n (pc := 24) k21_24 rfl ?_
  refine q_getIv (pc := 25) (v := M 3 2) k21_25 fg21_37 rfl rfl rfl ?_
  refine q_iload_n (pc := 28) k21_28 rfl ?_
  refine q_iastv (pc := 29) (k := (Int32.toNatClampNeg (M 3 2))) k21_29 rfl h.1 rfl ?_
  replace h := h.2
  refine q_aload_n (pc := 30) k21_30 rfl ?_
  refine q_dup (pc := 31) k21_31 rfl ?_
  refine q_getIv (pc := 32) (v := M 3 2) k21_32 fg21_37 rfl rfl rfl ?_
  refine q_iconst (pc := 35) (v := 1) k21_35 (by decide) ?_
  refine q_iadd (pc := 36) k21_36 ?_
  refine q_putI (pc := 37) k21_37 fp21_37 rfl rfl ?_
  refine q_aload_n (pc := 40) k21_40 rfl ?_
  refine q_dup (pc := 41) k21_41 rfl ?_
  refine q_getIv (pc := 42) (v := M 3 11) k21_42 fg21_69 rfl rfl rfl ?_
  refine q_iconst (pc := 45) (v := 1) k21_45 (by decide) ?_
  refine q_iadd (pc := 46) k21_46 ?_
  refine q_putI (pc := 47) k21_47 fp21_69 rfl rfl ?_
  refine q_iconst (pc := 50) (v := 1) k21_50 (by decide) ?_
  exact q_zreturn (pc := 51) k21_51 rfl (by decide) ⟨_, rfl, h⟩
set_option maxRecDepth 20000 in
theorem vc22 {X : Nat × (Nat → Int32)} {d : Nat} {M : q_M} {K : Int32 → q_M → Prop} (h : q_Ex X d 22 2 [some (.ref 3), some (.int 0), none, none] [] M (q_ri K)) : q_Ci X d 22 [.ref 3] M K := by
  show q_Ex X d 22 0 [some (.ref 3), none, none, none] [] M (q_ri K)
  refine q_iconst (pc := 0) (v := 0) k22_0 (by decide) ?_
  refine q_istore_n (pc := 1) [some (.ref 3), some (.int 0), none, none] k22_1 rfl (by decide) rfl ?_
  exact h
set_option maxRecDepth 20000 in
theorem vc22_p2 {X : Nat × (Nat → Int32)} {d : Nat} {M : q_M} {a1 : Int32} {K : Int32 → q_M → Prop} (h : ((3 ≤ a1) → ((((M 3 4) ≤ 0) → (K 0 M)) ∧ ((¬ (M 3 4) ≤ 0) → (K 1 M)))) ∧ ((¬ 3 ≤ a1) → (vp_in a1 3 ∧ ((((M 7 (Int32.toNatClampNeg a1)) < 0) → (vp_in a1 3 ∧ ((((M 8 (Int32.toNatClampNeg a1)) < 0) → (q_Ex X d 22 2 [some (.ref 3), some (.int (a1 + 1)), none, none] [] M (q_ri K))) ∧ ((¬ (M 8 (Int32.toNatClampNeg a1)) < 0) → (K 0 M))))) ∧ ((¬ (M 7 (Int32.toNatClampNeg a1)) < 0) → (vp_in a1 3 ∧ ((((M 8 (Int32.toNatClampNeg a1)) < 0) → (K 0 M)) ∧ ((¬ (M 8 (Int32.toNatClampNeg a1)) < 0) → (((a1 = (M 3 4)) → (q_Ex X d 22 2 [some (.ref 3), some (.int (a1 + 1)), none, none] [] (q_set M 3 4 ((M 3 4) + 1)) (q_ri K))) ∧ ((¬ a1 = (M 3 4)) → (K 0 M))))))))))) : q_Ex X d 22 2 [some (.ref 3), some (.int a1), none, none] [] M (q_ri K) := by
  refine q_iload_n (pc := 2) k22_2 rfl ?_
  refine q_iconst (pc := 3) (v := 3) k22_3 (by decide) ?_
  refine q_icmp_ge (pc := 4) 76 k22_4 (by decide) (fun g1 => ?_) (fun g1 => ?_)
  · replace h := h.1 g1
    refine q_aload_n (pc := 76) k22_76 rfl ?_
    refine q_getIv (pc := 77) (v := M 3 4) k22_77 fg22_43 rfl rfl rfl ?_
    refine q_if_le (pc := 80) 87 k22_80 (by decide) (fun g2 => ?_) (fun g2 => ?_)
    · replace h := h.1 g2
      refine q_iconst (pc := 87) (v := 0) k22_87 (by decide) ?_
      exact q_zreturn (pc := 88) k22_88 rfl (by decide) ⟨_, rfl, h⟩
    · replace h := h.2 g2
      refine q_iconst (pc := 83) (v := 1) k22_83 (by decide) ?_
      refine q_goto (pc := 84) 88 k22_84 (by decide) ?_
      exact q_zreturn (pc := 88) k22_88 rfl (by decide) ⟨_, rfl, h⟩
  · replace h := h.2 g1
    refine q_aload_n (pc := 7) k22_7 rfl ?_
    refine q_getR (pc := 8) k22_8 fg22_21 rfl rfl ?_
    refine q_iload_n (pc := 11) k22_11 rfl ?_
    refine q_ialdv (pc := 12) (v := M 7 (Int32.toNatClampNeg a1)) k22_12 rfl h.1 rfl ?_
    replace h := h.2
    refine q_if_lt (pc := 13) 20 k22_13 (by decide) (fun g3 => ?_) (fun g3 => ?_)
    · replace h := h.1 g3
      refine q_iconst (pc := 20) (v := 0) k22_20 (by decide) ?_
      refine q_istore_n (pc := 21) [some (.ref 3), some (.int a1), some (.int 0), none] k22_21 rfl (by decide) rfl ?_
      refine q_aload_n (pc := 22) k22_22 rfl ?_
      refine q_getR (pc := 23) k22_23 fg22_24 rfl rfl ?_
      refine q_iload_n (pc := 26) k22_26 rfl ?_
      refine q_ialdv (pc := 27) (v := M 8 (Int32.toNatClampNeg a1)) k22_27 rfl h.1 rfl ?_
      replace h := h.2
      refine q_if_lt (pc := 28) 35 k22_28 (by decide) (fun g4 => ?_) (fun g4 => ?_)
      · replace h := h.1 g4
        refine q_iconst (pc := 35) (v := 0) k22_35 (by decide) ?_
        refine q_istore_n (pc := 36) [some (.ref 3), some (.int a1), some (.int 0), some (.int 0)] k22_36 rfl (by decide) rfl ?_
        refine q_iload_n (pc := 37) k22_37 rfl ?_
        refine q_iload_n (pc := 38) k22_38 rfl ?_
        refine q_icmp_ne (pc := 39) 54 k22_39 (by decide) (fun g => absurd g (by decide)) (fun _ => ?_)
        refine q_iload_n (pc := 42) k22_42 rfl ?_
        refine q_if_eq (pc := 43) 56 k22_43 (by decide) (fun _ => ?_) (fun g => absurd g (by decide))
        refine q_iload_n (pc := 56) k22_56 rfl ?_
        refine q_if_eq (pc := 57) 70 k22_57 (by decide) (fun _ => ?_) (fun g => absurd g (by decide))
        refine q_iinc (pc := 70) (v := a1 + 1) [some (.ref 3), some (.int (a1 + 1)), some (.int 0), some (.int 0)] k22_70 rfl rfl rfl (by decide) rfl ?_
        refine q_goto (pc := 73) 2 k22_73 (by decide) ?_
        exact q_forget [some (.ref 3), some (.int (a1 + 1)), none, none] (q_subOk (And.intro rfl (And.intro rfl (trivial)))) h
      · replace h := h.2 g4
        refine q_iconst (pc := 31) (v := 1) k22_31 (by decide) ?_
        refine q_goto (pc := 32) 36 k22_32 (by decide) ?_
        refine q_istore_n (pc := 36) [some (.ref 3), some (.int a1), some (.int 0), some (.int 1)] k22_36 rfl (by decide) rfl ?_
        refine q_iload_n (pc := 37) k22_37 rfl ?_
        refine q_iload_n (pc := 38) k22_38 rfl ?_
        refine q_icmp_ne (pc := 39) 54 k22_39 (by decide) (fun _ => ?_) (fun g => absurd g (by decide))
        refine q_iconst (pc := 54) (v := 0) k22_54 (by decide) ?_
        exact q_zreturn (pc := 55) k22_55 rfl (by decide) ⟨_, rfl, h⟩
    · replace h := h.2 g3
      refine q_iconst (pc := 16) (v := 1) k22_16 (by decide) ?_
      refine q_goto (pc := 17) 21 k22_17 (by decide) ?_
      refine q_istore_n (pc := 21) [some (.ref 3), some (.int a1), some (.int 1), none] k22_21 rfl (by decide) rfl ?_
      refine q_aload_n (pc := 22) k22_22 rfl ?_
      refine q_getR (pc := 23) k22_23 fg22_24 rfl rfl ?_
      refine q_iload_n (pc := 26) k22_26 rfl ?_
      refine q_ialdv (pc := 27) (v := M 8 (Int32.toNatClampNeg a1)) k22_27 rfl h.1 rfl ?_
      replace h := h.2
      refine q_if_lt (pc := 28) 35 k22_28 (by decide) (fun g5 => ?_) (fun g5 => ?_)
      · replace h := h.1 g5
        refine q_iconst (pc := 35) (v := 0) k22_35 (by decide) ?_
        refine q_istore_n (pc := 36) [some (.ref 3), some (.int a1), some (.int 1), some (.int 0)] k22_36 rfl (by decide) rfl ?_
        refine q_iload_n (pc := 37) k22_37 rfl ?_
        refine q_iload_n (pc := 38) k22_38 rfl ?_
        refine q_icmp_ne (pc := 39) 54 k22_39 (by decide) (fun _ => ?_) (fun g => absurd g (by decide))
        refine q_iconst (pc := 54) (v := 0) k22_54 (by decide) ?_
        exact q_zreturn (pc := 55) k22_55 rfl (by decide) ⟨_, rfl, h⟩
      · replace h := h.2 g5
        refine q_iconst (pc := 31) (v := 1) k22_31 (by decide) ?_
        refine q_goto (pc := 32) 36 k22_32 (by decide) ?_
        refine q_istore_n (pc := 36) [some (.ref 3), some (.int a1), some (.int 1), some (.int 1)] k22_36 rfl (by decide) rfl ?_
        refine q_iload_n (pc := 37) k22_37 rfl ?_
        refine q_iload_n (pc := 38) k22_38 rfl ?_
        refine q_icmp_ne (pc := 39) 54 k22_39 (by decide) (fun g => absurd g (by decide)) (fun _ => ?_)
        refine q_iload_n (pc := 42) k22_42 rfl ?_
        refine q_if_eq (pc := 43) 56 k22_43 (by decide) (fun g => absurd g (by decide)) (fun _ => ?_)
        refine q_iload_n (pc := 46) k22_46 rfl ?_
        refine q_aload_n (pc := 47) k22_47 rfl ?_
        refine q_getIv (pc := 48) (v := M 3 4) k22_48 fg22_43 rfl rfl rfl ?_
        refine q_icmp_eq (pc := 51) 56 k22_51 (by decide) (fun g6 => ?_) (fun g6 => ?_)
        · replace h := h.1 g6
          refine q_iload_n (pc := 56) k22_56 rfl ?_
          refine q_if_eq (pc := 57) 70 k22_57 (by decide) (fun g => absurd g (by decide)) (fun _ => ?_)
          refine q_aload_n (pc := 60) k22_60 rfl ?_
          refine q_dup (pc := 61) k22_61 rfl ?_
          refine q_getIv (pc := 62) (v := M 3 4) k22_62 fg22_43 rfl rfl rfl ?_
          refine q_iconst (pc := 65) (v := 1) k22_65 (by decide) ?_
          refine q_iadd (pc := 66) k22_66 ?_
          refine q_putI (pc := 67) k22_67 fp22_43 rfl rfl ?_
          refine q_iinc (pc := 70) (v := a1 + 1) [some (.ref 3), some (.int (a1 + 1)), some (.int 1), some (.int 1)] k22_70 rfl rfl rfl (by decide) rfl ?_
          refine q_goto (pc := 73) 2 k22_73 (by decide) ?_
          exact q_forget [some (.ref 3), some (.int (a1 + 1)), none, none] (q_subOk (And.intro rfl (And.intro rfl (trivial)))) h
        · replace h := h.2 g6
          refine q_iconst (pc := 54) (v := 0) k22_54 (by decide) ?_
          exact q_zreturn (pc := 55) k22_55 rfl (by decide) ⟨_, rfl, h⟩
set_option maxRecDepth 20000 in
theorem vc20_7 {X : Nat × (Nat → Int32)} {d : Nat} (hd : 0 < d) {M : q_M} {a1 a2 : Int32} {K : Int32 → q_M → Prop} (h : ((a2 < 0) → (K 0 M)) ∧ ((¬ a2 < 0) → (((3 ≤ a2) → (K 0 M)) ∧ ((¬ 3 ≤ a2) → (vp_in a2 3 ∧ ((((M 7 (Int32.toNatClampNeg a2)) < 0) → (vp_in a2 3 ∧ (q_Ci X (d - 1) 21 [.ref 3, .int a1, .int 0, .int a2] (q_set M 7 (Int32.toNatClampNeg a2) (M 3 2)) (fun r5 M4 => (r5 = 0 ∨ r5 = 1) ∧ K r5 M4)))) ∧ ((¬ (M 7 (Int32.toNatClampNeg a2)) < 0) → (K 0 M)))))))) : q_Ci X d 20 [.ref 3, .int a1, .int a2, .ref 7] M K := by
  show q_Ex X d 20 0 [some (.ref 3), some (.int a1), some (.int a2), some (.ref 7)] [] M (q_ri K)
  refine q_iload_n (pc := 0) k20_0 rfl ?_
  refine q_if_lt (pc := 1) 16 k20_1 (by decide) (fun g1 => ?_) (fun g1 => ?_)
  · replace h := h.1 g1
    refine q_iconst (pc := 16) (v := 0) k20_16 (by decide) ?_
    exact q_zreturn (pc := 17) k20_17 rfl (by decide) ⟨_, rfl, h⟩
  · replace h := h.2 g1
    refine q_iload_n (pc := 4) k20_4 rfl ?_
    refine q_aload_n (pc := 5) k20_5 rfl ?_
    refine q_alen (pc := 6) (v := 3) k20_6 rfl rfl ?_
    refine q_icmp_ge (pc := 7) 16 k20_7 (by decide) (fun g2 => ?_) (fun g2 => ?_)
    · replace h := h.1 g2
      refine q_iconst (pc := 16) (v := 0) k20_16 (by decide) ?_
      exact q_zreturn (pc := 17) k20_17 rfl (by decide) ⟨_, rfl, h⟩
    · replace h := h.2 g2
      refine q_aload_n (pc := 10) k20_10 rfl ?_
      refine q_iload_n (pc := 11) k20_11 rfl ?_
      refine q_ialdv (pc := 12) (v := M 7 (Int32.toNatClampNeg a2)) k20_12 rfl h.1 rfl ?_
      replace h := h.2
      refine q_if_lt (pc := 13) 18 k20_13 (by decide) (fun g3 => ?_) (fun g3 => ?_)
      · replace h := h.1 g3
        refine q_aload_n (pc := 18) k20_18 rfl ?_
        refine q_iload_n (pc := 19) k20_19 rfl ?_
        refine q_aload_n (pc := 20) k20_20 rfl ?_
        refine q_getIv (pc := 21) (v := M 3 2) k20_21 fg20_37 rfl rfl rfl ?_
        refine q_iastv (pc := 24) (k := (Int32.toNatClampNeg a2)) k20_24 rfl h.1 rfl ?_
        replace h := h.2
        refine q_aload_n (pc := 25) k20_25 rfl ?_
        refine q_iload_n (pc := 26) k20_26 rfl ?_
        refine q_iconst (pc := 27) (v := 0) k20_27 (by decide) ?_
        refine q_iload_n (pc := 28) k20_28 rfl ?_
        refine q_invV (pc := 29) (As := [.int a1, .int 0, .int a2]) (st := []) k20_29 lm20_81 ov21 rfl rfl rfl (q_cat rfl) (Nat.le_of_ble_eq_true rfl) hd h ?_
        rintro v M4 ⟨r5, rfl, h⟩
        show q_Ex X d 20 (29 + 3) [some (.ref 3), some (.int a1), some (.int a2), some (.ref 7)] [.int r5] M4 _
        exact q_zreturn (pc := 32) k20_32 rfl h.1 ⟨_, rfl, h.2⟩
      · replace h := h.2 g3
        refine q_iconst (pc := 16) (v := 0) k20_16 (by decide) ?_
        exact q_zreturn (pc := 17) k20_17 rfl (by decide) ⟨_, rfl, h⟩
set_option maxRecDepth 20000 in
theorem vc20_8 {X : Nat × (Nat → Int32)} {d : Nat} (hd : 0 < d) {M : q_M} {a1 a2 : Int32} {K : Int32 → q_M → Prop} (h : ((a2 < 0) → (K 0 M)) ∧ ((¬ a2 < 0) → (((3 ≤ a2) → (K 0 M)) ∧ ((¬ 3 ≤ a2) → (vp_in a2 3 ∧ ((((M 8 (Int32.toNatClampNeg a2)) < 0) → (vp_in a2 3 ∧ (q_Ci X (d - 1) 21 [.ref 3, .int a1, .int 0, .int a2] (q_set M 8 (Int32.toNatClampNeg a2) (M 3 2)) (fun r5 M4 => (r5 = 0 ∨ r5 = 1) ∧ K r5 M4)))) ∧ ((¬ (M 8 (Int32.toNatClampNeg a2)) < 0) → (K 0 M)))))))) : q_Ci X d 20 [.ref 3, .int a1, .int a2, .ref 8] M K := by
  show q_Ex X d 20 0 [some (.ref 3), some (.int a1), some (.int a2), some (.ref 8)] [] M (q_ri K)
  refine q_iload_n (pc := 0) k20_0 rfl ?_
  refine q_if_lt (pc := 1) 16 k20_1 (by decide) (fun g1 => ?_) (fun g1 => ?_)
  · replace h := h.1 g1
    refine q_iconst (pc := 16) (v := 0) k20_16 (by decide) ?_
    exact q_zreturn (pc := 17) k20_17 rfl (by decide) ⟨_, rfl, h⟩
  · replace h := h.2 g1
    refine q_iload_n (pc := 4) k20_4 rfl ?_
    refine q_aload_n (pc := 5) k20_5 rfl ?_
    refine q_alen (pc := 6) (v := 3) k20_6 rfl rfl ?_
    refine q_icmp_ge (pc := 7) 16 k20_7 (by decide) (fun g2 => ?_) (fun g2 => ?_)
    · replace h := h.1 g2
      refine q_iconst (pc := 16) (v := 0) k20_16 (by decide) ?_
      exact q_zreturn (pc := 17) k20_17 rfl (by decide) ⟨_, rfl, h⟩
    · replace h := h.2 g2
      refine q_aload_n (pc := 10) k20_10 rfl ?_
      refine q_iload_n (pc := 11) k20_11 rfl ?_
      refine q_ialdv (pc := 12) (v := M 8 (Int32.toNatClampNeg a2)) k20_12 rfl h.1 rfl ?_
      replace h := h.2
      refine q_if_lt (pc := 13) 18 k20_13 (by decide) (fun g3 => ?_) (fun g3 => ?_)
      · replace h := h.1 g3
        refine q_aload_n (pc := 18) k20_18 rfl ?_
        refine q_iload_n (pc := 19) k20_19 rfl ?_
        refine q_aload_n (pc := 20) k20_20 rfl ?_
        refine q_getIv (pc := 21) (v := M 3 2) k20_21 fg20_37 rfl rfl rfl ?_
        refine q_iastv (pc := 24) (k := (Int32.toNatClampNeg a2)) k20_24 rfl h.1 rfl ?_
        replace h := h.2
        refine q_aload_n (pc := 25) k20_25 rfl ?_
        refine q_iload_n (pc := 26) k20_26 rfl ?_
        refine q_iconst (pc := 27) (v := 0) k20_27 (by decide) ?_
        refine q_iload_n (pc := 28) k20_28 rfl ?_
        refine q_invV (pc := 29) (As := [.int a1, .int 0, .int a2]) (st := []) k20_29 lm20_81 ov21 rfl rfl rfl (q_cat rfl) (Nat.le_of_ble_eq_true rfl) hd h ?_
        rintro v M4 ⟨r5, rfl, h⟩
        show q_Ex X d 20 (29 + 3) [some (.ref 3), some (.int a1), some (.int a2), some (.ref 8)] [.int r5] M4 _
        exact q_zreturn (pc := 32) k20_32 rfl h.1 ⟨_, rfl, h.2⟩
      · replace h := h.2 g3
        refine q_iconst (pc := 16) (v := 0) k20_16 (by decide) ?_
        exact q_zreturn (pc := 17) k20_17 rfl (by decide) ⟨_, rfl, h⟩
set_option maxRecDepth 20000 in
theorem vc23 {X : Nat × (Nat → Int32)} {d : Nat} {M : q_M} {a1 : Int32} {K : Int32 → q_M → Prop} (h : ((a1 < 0) → (K 0 M)) ∧ ((¬ a1 < 0) → ((((M 11 2) ≤ a1) → (K 0 M)) ∧ ((¬ (M 11 2) ≤ a1) → (K 1 M))))) : q_Ci X d 23 [.ref 11, .int a1] M K := by
  show q_Ex X d 23 0 [some (.ref 11), some (.int a1)] [] M (q_ri K)
  refine q_iload_n (pc := 0) k23_0 rfl ?_
  refine q_if_lt (pc := 1) 16 k23_1 (by decide) (fun g1 => ?_) (fun g1 => ?_)
  · replace h := h.1 g1
    refine q_iconst (pc := 16) (v := 0) k23_16 (by decide) ?_
    exact q_zreturn (pc := 17) k23_17 rfl (by decide) ⟨_, rfl, h⟩
  · replace h := h.2 g1
    refine q_iload_n (pc := 4) k23_4 rfl ?_
    refine q_aload_n (pc := 5) k23_5 rfl ?_
    refine q_getIv (pc := 6) (v := M 11 2) k23_6 fg23_37 rfl rfl rfl ?_
    refine q_icmp_ge (pc := 9) 16 k23_9 (by decide) (fun g2 => ?_) (fun g2 => ?_)
    · replace h := h.1 g2
      refine q_iconst (pc := 16) (v := 0) k23_16 (by decide) ?_
      exact q_zreturn (pc := 17) k23_17 rfl (by decide) ⟨_, rfl, h⟩
    · replace h := h.2 g2
      refine q_iconst (pc := 12) (v := 1) k23_12 (by decide) ?_
      refine q_goto (pc := 13) 17 k23_13 (by decide) ?_
      exact q_zreturn (pc := 17) k23_17 rfl (by decide) ⟨_, rfl, h⟩
set_option maxRecDepth 20000 in
theorem vc24 {X : Nat × (Nat → Int32)} {d : Nat} {M : q_M} {a1 : Int32} {K : Int32 → q_M → Prop} (h : ((a1 < 0) → (K 0 M)) ∧ ((¬ a1 < 0) → ((((M 11 4) ≤ a1) → (K 0 M)) ∧ ((¬ (M 11 4) ≤ a1) → (K 1 M))))) : q_Ci X d 24 [.ref 11, .int a1] M K := by
  show q_Ex X d 24 0 [some (.ref 11), some (.int a1)] [] M (q_ri K)
  refine q_iload_n (pc := 0) k24_0 rfl ?_
  refine q_if_lt (pc := 1) 16 k24_1 (by decide) (fun g1 => ?_) (fun g1 => ?_)
  · replace h := h.1 g1
    refine q_iconst (pc := 16) (v := 0) k24_16 (by decide) ?_
    exact q_zreturn (pc := 17) k24_17 rfl (by decide) ⟨_, rfl, h⟩
  · replace h := h.2 g1
    refine q_iload_n (pc := 4) k24_4 rfl ?_
    refine q_aload_n (pc := 5) k24_5 rfl ?_
    refine q_getIv (pc := 6) (v := M 11 4) k24_6 fg24_43 rfl rfl rfl ?_
    refine q_icmp_ge (pc := 9) 16 k24_9 (by decide) (fun g2 => ?_) (fun g2 => ?_)
    · replace h := h.1 g2
      refine q_iconst (pc := 16) (v := 0) k24_16 (by decide) ?_
      exact q_zreturn (pc := 17) k24_17 rfl (by decide) ⟨_, rfl, h⟩
    · replace h := h.2 g2
      refine q_iconst (pc := 12) (v := 1) k24_12 (by decide) ?_
      refine q_goto (pc := 13) 17 k24_13 (by decide) ?_
      exact q_zreturn (pc := 17) k24_17 rfl (by decide) ⟨_, rfl, h⟩
set_option maxRecDepth 20000 in
theorem vc25 {X : Nat × (Nat → Int32)} {d : Nat} (hd : 0 < d) {M : q_M} {a1 : Int32} {K : Int32 → q_M → Prop} (h : q_Ci X (d - 1) 24 [.ref 11, .int a1] M (fun r2 M1 => ((r2 = 0) → (K (-1) M1)) ∧ ((¬ r2 = 0) → (vp_in a1 3 ∧ (K (M1 15 (Int32.toNatClampNeg a1)) M1))))) : q_Ci X d 25 [.ref 11, .int a1] M K := by
  show q_Ex X d 25 0 [some (.ref 11), some (.int a1)] [] M (q_ri K)
  refine q_aload_n (pc := 0) k25_0 rfl ?_
  refine q_iload_n (pc := 1) k25_1 rfl ?_
  refine q_invV (pc := 2) (As := [.int a1]) (st := []) k25_2 lm25_89 ov24 rfl rfl rfl (q_cat rfl) (Nat.le_of_ble_eq_true rfl) hd h ?_
  rintro v M1 ⟨r2, rfl, h⟩
  show q_Ex X d 25 (2 + 3) [some (.ref 11), some (.int a1)] [.int r2] M1 _
  refine q_if_eq (pc := 5) 17 k25_5 (by decide) (fun g3 => ?_) (fun g3 => ?_)
  · replace h := h.1 g3
    refine q_iconst (pc := 17) (v := (-1)) k25_17 (by decide) ?_
    exact q_ireturn (pc := 18) k25_18 rfl ⟨_, rfl, h⟩
  · replace h := h.2 g3
    refine q_aload_n (pc := 8) k25_8 rfl ?_
    refine q_getR (pc := 9) k25_9 fg25_21 rfl rfl ?_
    refine q_iload_n (pc := 12) k25_12 rfl ?_
    refine q_ialdv (pc := 13) (v := M1 15 (Int32.toNatClampNeg a1)) k25_13 rfl h.1 rfl ?_
    replace h := h.2
    refine q_goto (pc := 14) 18 k25_14 (by decide) ?_
    exact q_ireturn (pc := 18) k25_18 rfl ⟨_, rfl, h⟩
set_option maxRecDepth 20000 in
theorem vc26 {X : Nat × (Nat → Int32)} {d : Nat} (hd : 0 < d) {M : q_M} {a1 : Int32} {K : Int32 → q_M → Prop} (h : q_Ci X (d - 1) 24 [.ref 11, .int a1] M (fun r2 M1 => ((r2 = 0) → (K (-1) M1)) ∧ ((¬ r2 = 0) → (vp_in a1 3 ∧ (K (M1 16 (Int32.toNatClampNeg a1)) M1))))) : q_Ci X d 26 [.ref 11, .int a1] M K := by
  show q_Ex X d 26 0 [some (.ref 11), some (.int a1)] [] M (q_ri K)
  refine q_aload_n (pc := 0) k26_0 rfl ?_
  refine q_iload_n (pc := 1) k26_1 rfl ?_
  refine q_invV (pc := 2) (As := [.int a1]) (st := []) k26_2 lm26_89 ov24 rfl rfl rfl (q_cat rfl) (Nat.le_of_ble_eq_true rfl) hd h ?_
  rintro v M1 ⟨r2, rfl, h⟩
  show q_Ex X d 26 (2 + 3) [some (.ref 11), some (.int a1)] [.int r2] M1 _
  refine q_if_eq (pc := 5) 17 k26_5 (by decide) (fun g3 => ?_) (fun g3 => ?_)
  · replace h := h.1 g3
    refine q_iconst (pc := 17) (v := (-1)) k26_17 (by decide) ?_
    exact q_ireturn (pc := 18) k26_18 rfl ⟨_, rfl, h⟩
  · replace h := h.2 g3
    refine q_aload_n (pc := 8) k26_8 rfl ?_
    refine q_getR (pc := 9) k26_9 fg26_24 rfl rfl ?_
    refine q_iload_n (pc := 12) k26_12 rfl ?_
    refine q_ialdv (pc := 13) (v := M1 16 (Int32.toNatClampNeg a1)) k26_13 rfl h.1 rfl ?_
    replace h := h.2
    refine q_goto (pc := 14) 18 k26_14 (by decide) ?_
    exact q_ireturn (pc := 18) k26_18 rfl ⟨_, rfl, h⟩
set_option maxRecDepth 20000 in
theorem vc27 {X : Nat × (Nat → Int32)} {d : Nat} (hd : 0 < d) {M : q_M} {a1 a2 : Int32} {K : Int32 → q_M → Prop} (h : q_Ci X (d - 1) 23 [.ref 11, .int a1] M (fun r2 M1 => ((r2 = 0) → (K (-1) M1)) ∧ ((¬ r2 = 0) → (((1 ≤ (M1 11 1)) → (((¬ a2 = 1) → (q_Ci X (d - 1) 23 [.ref 11, .int (a1 + (M1 11 1))] M1 (fun r7 M6 => ((r7 = 0) → (K (-1) M6)) ∧ ((¬ r7 = 0) → (vp_in (a1 + (M1 11 1)) 30 ∧ ((((M6 12 (Int32.toNatClampNeg (a1 + (M1 11 1)))) = 1) → (K (-1) M6)) ∧ ((¬ (M6 12 (Int32.toNatClampNeg (a1 + (M1 11 1)))) = 1) → (K (a1 + (M1 11 1)) M6)))))))) ∧ ((a2 = 1) → (¬ (M1 11 1) = 0 ∧ (((¬ (a1 - a1 / (M1 11 1) * (M1 11 1)) = ((M1 11 1) - 1)) → (q_Ci X (d - 1) 23 [.ref 11, .int (a1 + 1)] M1 (fun r12 M11 => ((r12 = 0) → (K (-1) M11)) ∧ ((¬ r12 = 0) → (vp_in (a1 + 1) 30 ∧ ((((M11 12 (Int32.toNatClampNeg (a1 + 1))) = 1) → (K (-1) M11)) ∧ ((¬ (M11 12 (Int32.toNatClampNeg (a1 + 1))) = 1) → (K (a1 + 1) M11)))))))) ∧ (((a1 - a1 / (M1 11 1) * (M1 11 1)) = ((M1 11 1) - 1)) → (K (-1) M1))))))) ∧ ((¬ 1 ≤ (M1 11 1)) → (K (-1) M1)))))) : q_Ci X d 27 [.ref 11, .int a1, .int a2] M K := by
  show q_Ex X d 27 0 [some (.ref 11), some (.int a1), some (.int a2), none] [] M (q_ri K)
  refine q_aload_n (pc := 0) k27_0 rfl ?_
  refine q_iload_n (pc := 1) k27_1 rfl ?_
  refine q_invV (pc := 2) (As := [.int a1]) (st := []) k27_2 lm27_92 ov23 rfl rfl rfl (q_cat rfl) (Nat.le_of_ble_eq_true rfl) hd h ?_
  rintro v M1 ⟨r2, rfl, h⟩
  show q_Ex X d 27 (2 + 3) [some (.ref 11), some (.int a1), some (.int a2), none] [.int r2] M1 _
  refine q_if_eq (pc := 5) 16 k27_5 (by decide) (fun g3 => ?_) (fun g3 => ?_)
  · replace h := h.1 g3
    refine q_iconst (pc := 16) (v := (-1)) k27_16 (by decide) ?_
    exact q_ireturn (pc := 17) k27_17 rfl ⟨_, rfl, h⟩
  · replace h := h.2 g3
    refine q_aload_n (pc := 8) k27_8 rfl ?_
    refine q_getIv (pc := 9) (v := M1 11 1) k27_9 fg27_34 rfl rfl rfl ?_
    refine q_iconst (pc := 12) (v := 1) k27_12 (by decide) ?_
    refine q_icmp_ge (pc := 13) 18 k27_13 (by decide) (fun g4 => ?_) (fun g4 => ?_)
    · replace h := h.1 g4
      refine q_iload_n (pc := 18) k27_18 rfl ?_
      refine q_iconst (pc := 19) (v := 1) k27_19 (by decide) ?_
      refine q_icmp_ne (pc := 20) 40 k27_20 (by decide) (fun g5 => ?_) (fun g5 => ?_)
      · replace h := h.1 g5
        refine q_iload_n (pc := 40) k27_40 rfl ?_
        refine q_iconst (pc := 41) (v := 1) k27_41 (by decide) ?_
        refine q_icmp_ne (pc := 42) 51 k27_42 (by decide) (fun _ => ?_) (fun g => absurd g g5)
        refine q_iload_n (pc := 51) k27_51 rfl ?_
        refine q_aload_n (pc := 52) k27_52 rfl ?_
        refine q_getIv (pc := 53) (v := M1 11 1) k27_53 fg27_34 rfl rfl rfl ?_
        refine q_iadd (pc := 56) k27_56 ?_
        refine q_istore_n (pc := 57) [some (.ref 11), some (.int a1), some (.int a2), some (.int (a1 + (M1 11 1)))] k27_57 rfl (by decide) rfl ?_
        refine q_aload_n (pc := 58) k27_58 rfl ?_
        refine q_iload_n (pc := 59) k27_59 rfl ?_
        refine q_invV (pc := 60) (As := [.int (a1 + (M1 11 1))]) (st := []) k27_60 lm27_92 ov23 rfl rfl rfl (q_cat rfl) (Nat.le_of_ble_eq_true rfl) hd h ?_
        rintro v M6 ⟨r7, rfl, h⟩
        show q_Ex X d 27 (60 + 3) [some (.ref 11), some (.int a1), some (.int a2), some (.int (a1 + (M1 11 1)))] [.int r7] M6 _
        refine q_if_eq (pc := 63) 80 k27_63 (by decide) (fun g8 => ?_) (fun g8 => ?_)
        · replace h := h.1 g8
          refine q_iconst (pc := 80) (v := (-1)) k27_80 (by decide) ?_
          exact q_ireturn (pc := 81) k27_81 rfl ⟨_, rfl, h⟩
        · replace h := h.2 g8
          refine q_aload_n (pc := 66) k27_66 rfl ?_
          refine q_getR (pc := 67) k27_67 fg27_9 rfl rfl ?_
          refine q_iload_n (pc := 70) k27_70 rfl ?_
          refine q_ialdv (pc := 71) (v := M6 12 (Int32.toNatClampNeg (a1 + (M1 11 1)))) k27_71 rfl h.1 rfl ?_
          replace h := h.2
          refine q_iconst (pc := 72) (v := 1) k27_72 (by decide) ?_
          refine q_icmp_eq (pc := 73) 80 k27_73 (by decide) (fun g9 => ?_) (fun g9 => ?_)
          · replace h := h.1 g9
            refine q_iconst (pc := 80) (v := (-1)) k27_80 (by decide) ?_
            exact q_ireturn (pc := 81) k27_81 rfl ⟨_, rfl, h⟩
          · replace h := h.2 g9
            refine q_iload_n (pc := 76) k27_76 rfl ?_
            refine q_goto (pc := 77) 81 k27_77 (by decide) ?_
            exact q_ireturn (pc := 81) k27_81 rfl ⟨_, rfl, h⟩
      · replace h := h.2 g5
        refine q_iload_n (pc := 23) k27_23 rfl ?_
        refine q_aload_n (pc := 24) k27_24 rfl ?_
        refine q_getIv (pc := 25) (v := M1 11 1) k27_25 fg27_34 rfl rfl rfl ?_
        refine q_irem (pc := 28) k27_28 h.1 ?_
        replace h := h.2
        refine q_aload_n (pc := 29) k27_29 rfl ?_
        refine q_getIv (pc := 30) (v := M1 11 1) k27_30 fg27_34 rfl rfl rfl ?_
        refine q_iconst (pc := 33) (v := 1) k27_33 (by decide) ?_
        refine q_isub (pc := 34) k27_34 ?_
        refine q_icmp_ne (pc := 35) 40 k27_35 (by decide) (fun g10 => ?_) (fun g10 => ?_)
        · replace h := h.1 g10
          refine q_iload_n (pc := 40) k27_40 rfl ?_
          refine q_iconst (pc := 41) (v := 1) k27_41 (by decide) ?_
          refine q_icmp_ne (pc := 42) 51 k27_42 (by decide) (fun g => absurd g5 g) (fun _ => ?_)
          refine q_iload_n (pc := 45) k27_45 rfl ?_
          refine q_iconst (pc := 46) (v := 1) k27_46 (by decide) ?_
          refine q_iadd (pc := 47) k27_47 ?_
          refine q_goto (pc := 48) 57 k27_48 (by decide) ?_
          refine q_istore_n (pc := 57) [some (.ref 11), some (.int a1), some (.int a2), some (.int (a1 + 1))] k27_57 rfl (by decide) rfl ?_
          refine q_aload_n (pc := 58) k27_58 rfl ?_
          refine q_iload_n (pc := 59) k27_59 rfl ?_
          refine q_invV (pc := 60) (As := [.int (a1 + 1)]) (st := []) k27_60 lm27_92 ov23 rfl rfl rfl (q_cat rfl) (Nat.le_of_ble_eq_true rfl) hd h ?_
          rintro v M11 ⟨r12, rfl, h⟩
          show q_Ex X d 27 (60 + 3) [some (.ref 11), some (.int a1), some (.int a2), some (.int (a1 + 1))] [.int r12] M11 _
          refine q_if_eq (pc := 63) 80 k27_63 (by decide) (fun g13 => ?_) (fun g13 => ?_)
          · replace h := h.1 g13
            refine q_iconst (pc := 80) (v := (-1)) k27_80 (by decide) ?_
            exact q_ireturn (pc := 81) k27_81 rfl ⟨_, rfl, h⟩
          · replace h := h.2 g13
            refine q_aload_n (pc := 66) k27_66 rfl ?_
            refine q_getR (pc := 67) k27_67 fg27_9 rfl rfl ?_
            refine q_iload_n (pc := 70) k27_70 rfl ?_
            refine q_ialdv (pc := 71) (v := M11 12 (Int32.toNatClampNeg (a1 + 1))) k27_71 rfl h.1 rfl ?_
            replace h := h.2
            refine q_iconst (pc := 72) (v := 1) k27_72 (by decide) ?_
            refine q_icmp_eq (pc := 73) 80 k27_73 (by decide) (fun g14 => ?_) (fun g14 => ?_)
            · replace h := h.1 g14
              refine q_iconst (pc := 80) (v := (-1)) k27_80 (by decide) ?_
              exact q_ireturn (pc := 81) k27_81 rfl ⟨_, rfl, h⟩
            · replace h := h.2 g14
              refine q_iload_n (pc := 76) k27_76 rfl ?_
              refine q_goto (pc := 77) 81 k27_77 (by decide) ?_
              exact q_ireturn (pc := 81) k27_81 rfl ⟨_, rfl, h⟩
        · replace h := h.2 g10
          refine q_iconst (pc := 38) (v := (-1)) k27_38 (by decide) ?_
          exact q_ireturn (pc := 39) k27_39 rfl ⟨_, rfl, h⟩
    · replace h := h.2 g4
      refine q_iconst (pc := 16) (v := (-1)) k27_16 (by decide) ?_
      exact q_ireturn (pc := 17) k27_17 rfl ⟨_, rfl, h⟩
set_option maxRecDepth 20000 in
theorem vc28 {X : Nat × (Nat → Int32)} {d : Nat} (hd : 0 < d) {M : q_M} {a1 a2 : Int32} {K : Int32 → q_M → Prop} (h : q_Ci X (d - 1) 25 [.ref 11, .int a1] M (fun r2 M1 => q_Ci X (d - 1) 26 [.ref 11, .int a2] M1 (fun r4 M3 => q_Ci X (d - 1) 23 [.ref 11, .int r2] M3 (fun r6 M5 => ((r6 = 0) → (K 0 M5)) ∧ ((¬ r6 = 0) → (q_Ci X (d - 1) 23 [.ref 11, .int r4] M5 (fun r9 M8 => ((¬ r9 = 0) → (q_Cv X (d - 1) 158 [.ref 17, .int 0] M8 (fun M11 => vp_in r2 30 ∧ (q_Ex X d 28 50 [some (.ref 11), none, none, none, some (.int r4), some (.int r2), none, none] [] (q_set M11 17 (Int32.toNatClampNeg r2) 1) (q_ri K))))) ∧ ((r9 = 0) → (K 0 M8))))))))) : q_Ci X d 28 [.ref 11, .int a1, .int a2] M K := by
  show q_Ex X d 28 0 [some (.ref 11), some (.int a1), some (.int a2), none, none, none, none, none] [] M (q_ri K)
  refine q_aload_n (pc := 0) k28_0 rfl ?_
  refine q_iload_n (pc := 1) k28_1 rfl ?_
  refine q_invV (pc := 2) (As := [.int a1]) (st := []) k28_2 lm28_95 ov25 rfl rfl rfl (q_cat rfl) (Nat.le_of_ble_eq_true rfl) hd h ?_
  rintro v M1 ⟨r2, rfl, h⟩
  show q_Ex X d 28 (2 + 3) [some (.ref 11), some (.int a1), some (.int a2), none, none, none, none, none] [.int r2] M1 _
  refine q_istore_n (pc := 5) [some (.ref 11), some (.int a1), some (.int a2), some (.int r2), none, none, none, none] k28_5 rfl (by decide) rfl ?_
  refine q_aload_n (pc := 6) k28_6 rfl ?_
  refine q_iload_n (pc := 7) k28_7 rfl ?_
  refine q_invV (pc := 8) (As := [.int a2]) (st := []) k28_8 lm28_99 ov26 rfl rfl rfl (q_cat rfl) (Nat.le_of_ble_eq_true rfl) hd h ?_
  rintro v M3 ⟨r4, rfl, h⟩
  show q_Ex X d 28 (8 + 3) [some (.ref 11), some (.int a1), some (.int a2), some (.int r2), none, none, none, none] [.int r4] M3 _
  refine q_istore (pc := 11) [some (.ref 11), some (.int a1), some (.int a2), some (.int r2), some (.int r4), none, none, none] k28_11 rfl (by decide) rfl ?_
  refine q_aload_n (pc := 13) k28_13 rfl ?_
  refine q_iload_n (pc := 14) k28_14 rfl ?_
  refine q_invV (pc := 15) (As := [.int r2]) (st := []) k28_15 lm28_92 ov23 rfl rfl rfl (q_cat rfl) (Nat.le_of_ble_eq_true rfl) hd h ?_
  rintro v M5 ⟨r6, rfl, h⟩
  show q_Ex X d 28 (15 + 3) [some (.ref 11), some (.int a1), some (.int a2), some (.int r2), some (.int r4), none, none, none] [.int r6] M5 _
  refine q_if_eq (pc := 18) 30 k28_18 (by decide) (fun g7 => ?_) (fun g7 => ?_)
  · replace h := h.1 g7
    refine q_iconst (pc := 30) (v := 0) k28_30 (by decide) ?_
    exact q_ireturn (pc := 31) k28_31 rfl ⟨_, rfl, h⟩
  · replace h := h.2 g7
    refine q_aload_n (pc := 21) k28_21 rfl ?_
    refine q_iload (pc := 22) k28_22 rfl ?_
    refine q_invV (pc := 24) (As := [.int r4]) (st := []) k28_24 lm28_92 ov23 rfl rfl rfl (q_cat rfl) (Nat.le_of_ble_eq_true rfl) hd h ?_
    rintro v M8 ⟨r9, rfl, h⟩
    show q_Ex X d 28 (24 + 3) [some (.ref 11), some (.int a1), some (.int a2), some (.int r2), some (.int r4), none, none, none] [.int r9] M8 _
    refine q_if_ne (pc := 27) 32 k28_27 (by decide) (fun g10 => ?_) (fun g10 => ?_)
    · replace h := h.1 g10
      refine q_aload_n (pc := 32) k28_32 rfl ?_
      refine q_getR (pc := 33) k28_33 fg28_27 rfl rfl ?_
      refine q_iconst (pc := 36) (v := 0) k28_36 (by decide) ?_
      refine q_invS (pc := 37) (As := [.ref 17, .int 0]) (st := []) k28_37 lm28_75 os158 rfl rfl (q_cat rfl) (Nat.le_of_ble_eq_true rfl) hd h ?_
      rintro v M11 ⟨rfl, h⟩
      show q_Ex X d 28 (37 + 3) [some (.ref 11), some (.int a1), some (.int a2), some (.int r2), some (.int r4), none, none, none] [] M11 _
      refine q_aload_n (pc := 40) k28_40 rfl ?_
      refine q_getR (pc := 41) k28_41 fg28_27 rfl rfl ?_
      refine q_iload_n (pc := 44) k28_44 rfl ?_
      refine q_iconst (pc := 45) (v := 1) k28_45 (by decide) ?_
      refine q_iastv (pc := 46) (k := (Int32.toNatClampNeg r2)) k28_46 rfl h.1 rfl ?_
      replace h := h.2
      refine q_iload_n (pc := 47) k28_47 rfl ?_
      refine q_istore (pc := 48) [some (.ref 11), some (.int a1), some (.int a2), some (.int r2), some (.int r4), some (.int r2), none, none] k28_48 rfl (by decide) rfl ?_
      exact q_forget [some (.ref 11), none, none, none, some (.int r4), some (.int r2), none, none] (q_subOk (And.intro rfl (And.intro rfl (And.intro rfl (trivial))))) h
    · replace h := h.2 g10
      refine q_iconst (pc := 30) (v := 0) k28_30 (by decide) ?_
      exact q_ireturn (pc := 31) k28_31 rfl ⟨_, rfl, h⟩
set_option maxRecDepth 20000 in
theorem vc28_p50 {X : Nat × (Nat → Int32)} {d : Nat} {M : q_M} {a4 a5 : Int32} {K : Int32 → q_M → Prop} (h : ((a4 ≤ a5) → (vp_in a4 30 ∧ (K (M 17 (Int32.toNatClampNeg a4)) M))) ∧ ((¬ a4 ≤ a5) → (q_Ex X d 28 60 [some (.ref 11), none, none, none, some (.int a4), some (.int a5), some (.int 0), none] [] M (q_ri K)))) : q_Ex X d 28 50 [some (.ref 11), none, none, none, some (.int a4), some (.int a5), none, none] [] M (q_ri K) := by
  refine q_iload (pc := 50) k28_50 rfl ?_
  refine q_iload (pc := 52) k28_52 rfl ?_
  refine q_icmp_ge (pc := 54) 110 k28_54 (by decide) (fun g1 => ?_) (fun g1 => ?_)
  · replace h := h.1 g1
    refine q_aload_n (pc := 110) k28_110 rfl ?_
    refine q_getR (pc := 111) k28_111 fg28_27 rfl rfl ?_
    refine q_iload (pc := 114) k28_114 rfl ?_
    refine q_ialdv (pc := 116) (v := M 17 (Int32.toNatClampNeg a4)) k28_116 rfl h.1 rfl ?_
    replace h := h.2
    exact q_ireturn (pc := 117) k28_117 rfl ⟨_, rfl, h⟩
  · replace h := h.2 g1
    refine q_iconst (pc := 57) (v := 0) k28_57 (by decide) ?_
    refine q_istore (pc := 58) [some (.ref 11), none, none, none, some (.int a4), some (.int a5), some (.int 0), none] k28_58 rfl (by decide) rfl ?_
    exact h
set_option maxRecDepth 20000 in
theorem vc28_p60 {X : Nat × (Nat → Int32)} {d : Nat} (hd : 0 < d) {M : q_M} {a4 a5 a6 : Int32} {K : Int32 → q_M → Prop} (h : ((1 < a6) → (q_Ex X d 28 50 [some (.ref 11), none, none, none, some (.int a4), some (.int (a5 + 1)), none, none] [] M (q_ri K))) ∧ ((¬ 1 < a6) → (q_Ci X (d - 1) 27 [.ref 11, .int a5, .int a6] M (fun r3 M2 => ((r3 < 0) → (q_Ex X d 28 60 [some (.ref 11), none, none, none, some (.int a4), some (.int a5), some (.int (a6 + 1)), none] [] M2 (q_ri K))) ∧ ((¬ r3 < 0) → (vp_in r3 30 ∧ (vp_in a5 30 ∧ (vp_in r3 30 ∧ (q_Ex X d 28 60 [some (.ref 11), none, none, none, some (.int a4), some (.int a5), some (.int (a6 + 1)), none] [] (q_set M2 17 (Int32.toNatClampNeg r3) ((M2 17 (Int32.toNatClampNeg r3)) + (M2 17 (Int32.toNatClampNeg a5)))) (q_ri K)))))))))) : q_Ex X d 28 60 [some (.ref 11), none, none, none, some (.int a4), some (.int a5), some (.int a6), none] [] M (q_ri K) := by
  refine q_iload (pc := 60) k28_60 rfl ?_
  refine q_iconst (pc := 62) (v := 1) k28_62 (by decide) ?_
  refine q_icmp_gt (pc := 63) 104 k28_63 (by decide) (fun g1 => ?_) (fun g1 => ?_)
  · replace h := h.1 g1
    refine q_iinc (pc := 104) (v := a5 + 1) [some (.ref 11), none, none, none, some (.int a4), some (.int (a5 + 1)), some (.int a6), none] k28_104 rfl rfl rfl (by decide) rfl ?_
    refine q_goto (pc := 107) 50 k28_107 (by decide) ?_
    exact q_forget [some (.ref 11), none, none, none, some (.int a4), some (.int (a5 + 1)), none, none] (q_subOk (And.intro rfl (And.intro rfl (And.intro rfl (trivial))))) h
  · replace h := h.2 g1
    refine q_aload_n (pc := 66) k28_66 rfl ?_
    refine q_iload (pc := 67) k28_67 rfl ?_
    refine q_iload (pc := 69) k28_69 rfl ?_
    refine q_invV (pc := 71) (As := [.int a5, .int a6]) (st := []) k28_71 lm28_102 ov27 rfl rfl rfl (q_cat rfl) (Nat.le_of_ble_eq_true rfl) hd h ?_
    rintro v M2 ⟨r3, rfl, h⟩
    show q_Ex X d 28 (71 + 3) [some (.ref 11), none, none, none, some (.int a4), some (.int a5), some (.int a6), none] [.int r3] M2 _
    refine q_istore (pc := 74) [some (.ref 11), none, none, none, some (.int a4), some (.int a5), some (.int a6), some (.int r3)] k28_74 rfl (by decide) rfl ?_
    refine q_iload (pc := 76) k28_76 rfl ?_
    refine q_if_lt (pc := 78) 98 k28_78 (by decide) (fun g4 => ?_) (fun g4 => ?_)
    · replace h := h.1 g4
      refine q_iinc (pc := 98) (v := a6 + 1) [some (.ref 11), none, none, none, some (.int a4), some (.int a5), some (.int (a6 + 1)), some (.int r3)] k28_98 rfl rfl rfl (by decide) rfl ?_
      refine q_goto (pc := 101) 60 k28_101 (by decide) ?_
      exact q_forget [some (.ref 11), none, none, none, some (.int a4), some (.int a5), some (.int (a6 + 1)), none] (q_subOk (And.intro rfl (And.intro rfl (And.intro rfl (And.intro rfl (trivial)))))) h
    · replace h := h.2 g4
      refine q_aload_n (pc := 81) k28_81 rfl ?_
      refine q_getR (pc := 82) k28_82 fg28_27 rfl rfl ?_
      refine q_iload (pc := 85) k28_85 rfl ?_
      refine q_dup2 (pc := 87) k28_87 rfl rfl ?_
      refine q_ialdv (pc := 88) (v := M2 17 (Int32.toNatClampNeg r3)) k28_88 rfl h.1 rfl ?_
      replace h := h.2
      refine q_aload_n (pc := 89) k28_89 rfl ?_
      refine q_getR (pc := 90) k28_90 fg28_27 rfl rfl ?_
      refine q_iload (pc := 93) k28_93 rfl ?_
      refine q_ialdv (pc := 95) (v := M2 17 (Int32.toNatClampNeg a5)) k28_95 rfl h.1 rfl ?_
      replace h := h.2
      refine q_iadd (pc := 96) k28_96 ?_
      refine q_iastv (pc := 97) (k := (Int32.toNatClampNeg r3)) k28_97 rfl h.1 rfl ?_
      replace h := h.2
      refine q_iinc (pc := 98) (v := a6 + 1) [some (.ref 11), none, none, none, some (.int a4), some (.int a5), some (.int (a6 + 1)), some (.int r3)] k28_98 rfl rfl rfl (by decide) rfl ?_
      refine q_goto (pc := 101) 60 k28_101 (by decide) ?_
      exact q_forget [some (.ref 11), none, none, none, some (.int a4), some (.int a5), some (.int (a6 + 1)), none] (q_subOk (And.intro rfl (And.intro rfl (And.intro rfl (And.intro rfl (trivial)))))) h
set_option maxRecDepth 20000 in
theorem vc29 {X : Nat × (Nat → Int32)} {d : Nat} (hd : 0 < d) {M : q_M} {a1 a2 a3 : Int32} {K : Int32 → q_M → Prop} (h : q_Ci X (d - 1) 155 [.int a1] M (fun r2 M1 => ((a3 < (r2 - 1)) → (q_Ci X (d - 1) 25 [.ref 11, .int a2] M1 (fun r5 M4 => q_Ex X d 29 23 [some (.ref 11), some (.int a1), none, some (.int a3), some (.int r5), some (.int 0)] [] M4 (q_ri K)))) ∧ ((¬ a3 < (r2 - 1)) → (K (-9) M1)))) : q_Ci X d 29 [.ref 11, .int a1, .int a2, .int a3] M K := by
  show q_Ex X d 29 0 [some (.ref 11), some (.int a1), some (.int a2), some (.int a3), none, none] [] M (q_ri K)
  refine q_iload_n (pc := 0) k29_0 rfl ?_
  refine q_iload_n (pc := 1) k29_1 rfl ?_
  refine q_invS (pc := 2) (As := [.int a1]) (st := [.int a3]) k29_2 lm29_105 os155 rfl rfl (q_cat rfl) (Nat.le_of_ble_eq_true rfl) hd h ?_
  rintro v M1 ⟨r2, rfl, h⟩
  show q_Ex X d 29 (2 + 3) [some (.ref 11), some (.int a1), some (.int a2), some (.int a3), none, none] [.int r2, .int a3] M1 _
  refine q_iconst (pc := 5) (v := 1) k29_5 (by decide) ?_
  refine q_isub (pc := 6) k29_6 ?_
  refine q_icmp_lt (pc := 7) 13 k29_7 (by decide) (fun g3 => ?_) (fun g3 => ?_)
  · replace h := h.1 g3
    refine q_aload_n (pc := 13) k29_13 rfl ?_
    refine q_iload_n (pc := 14) k29_14 rfl ?_
    refine q_invV (pc := 15) (As := [.int a2]) (st := []) k29_15 lm29_95 ov25 rfl rfl rfl (q_cat rfl) (Nat.le_of_ble_eq_true rfl) hd h ?_
    rintro v M4 ⟨r5, rfl, h⟩
    show q_Ex X d 29 (15 + 3) [some (.ref 11), some (.int a1), some (.int a2), some (.int a3), none, none] [.int r5] M4 _
    refine q_istore (pc := 18) [some (.ref 11), some (.int a1), some (.int a2), some (.int a3), some (.int r5), none] k29_18 rfl (by decide) rfl ?_
    refine q_iconst (pc := 20) (v := 0) k29_20 (by decide) ?_
    refine q_istore (pc := 21) [some (.ref 11), some (.int a1), some (.int a2), some (.int a3), some (.int r5), some (.int 0)] k29_21 rfl (by decide) rfl ?_
    exact q_forget [some (.ref 11), some (.int a1), none, some (.int a3), some (.int r5), some (.int 0)] (q_subOk (And.intro rfl (And.intro rfl (And.intro rfl (And.intro rfl (And.intro rfl (trivial))))))) h
  · replace h := h.2 g3
    refine q_bipush (pc := 10) (v := (-9)) k29_10 (by decide) ?_
    exact q_ireturn (pc := 12) k29_12 rfl ⟨_, rfl, h⟩
set_option maxRecDepth 20000 in
theorem vc29_p23 {X : Nat × (Nat → Int32)} {d : Nat} (hd : 0 < d) {M : q_M} {a1 a3 a4 a5 : Int32} {K : Int32 → q_M → Prop} (h : ((a3 ≤ a5) → (q_Ci X (d - 1) 90 [.int a1, .int (a4 + (M 11 1))] M (fun r3 M2 => ((r3 = 0) → (K 1 M2)) ∧ ((¬ r3 = 0) → (K 0 M2))))) ∧ ((¬ a3 ≤ a5) → (q_Ci X (d - 1) 90 [.int a1, .int (a4 + (M 11 1))] M (fun r6 M5 => ((r6 = 0) → (q_Ex X d 29 23 [some (.ref 11), some (.int a1), none, some (.int a3), some (.int (a4 + 1)), some (.int (a5 + 1))] [] M5 (q_ri K))) ∧ ((¬ r6 = 0) → (q_Ex X d 29 23 [some (.ref 11), some (.int a1), none, some (.int a3), some (.int (a4 + (M5 11 1))), some (.int (a5 + 1))] [] M5 (q_ri K))))))) : q_Ex X d 29 23 [some (.ref 11), some (.int a1), none, some (.int a3), some (.int a4), some (.int a5)] [] M (q_ri K) := by
  refine q_iload (pc := 23) k29_23 rfl ?_
  refine q_iload_n (pc := 25) k29_25 rfl ?_
  refine q_icmp_ge (pc := 26) 65 k29_26 (by decide) (fun g1 => ?_) (fun g1 => ?_)
  · replace h := h.1 g1
    refine q_iload_n (pc := 65) k29_65 rfl ?_
    refine q_iload (pc := 66) k29_66 rfl ?_
    refine q_aload_n (pc := 68) k29_68 rfl ?_
    refine q_getIv (pc := 69) (v := M 11 1) k29_69 fg29_34 rfl rfl rfl ?_
    refine q_iadd (pc := 72) k29_72 ?_
    refine q_invSN (pc := 73) (As := [.int a1, .int (a4 + (M 11 1))]) (st := []) k29_73 lm29_110 os90 rfl rfl (q_cat rfl) (Nat.le_of_ble_eq_true rfl) hd h ?_
    rintro v M2 ⟨r3, rfl, h⟩
    show q_Ex X d 29 (73 + 3) [some (.ref 11), some (.int a1), none, some (.int a3), some (.int a4), some (.int a5)] [.int r3] M2 _
    refine q_if_eq (pc := 76) 83 k29_76 (by decide) (fun g4 => ?_) (fun g4 => ?_)
    · replace h := h.1 g4
      refine q_iconst (pc := 83) (v := 1) k29_83 (by decide) ?_
      exact q_ireturn (pc := 84) k29_84 rfl ⟨_, rfl, h⟩
    · replace h := h.2 g4
      refine q_iconst (pc := 79) (v := 0) k29_79 (by decide) ?_
      refine q_goto (pc := 80) 84 k29_80 (by decide) ?_
      exact q_ireturn (pc := 84) k29_84 rfl ⟨_, rfl, h⟩
  · replace h := h.2 g1
    refine q_iload_n (pc := 29) k29_29 rfl ?_
    refine q_iload (pc := 30) k29_30 rfl ?_
    refine q_aload_n (pc := 32) k29_32 rfl ?_
    refine q_getIv (pc := 33) (v := M 11 1) k29_33 fg29_34 rfl rfl rfl ?_
    refine q_iadd (pc := 36) k29_36 ?_
    refine q_invSN (pc := 37) (As := [.int a1, .int (a4 + (M 11 1))]) (st := []) k29_37 lm29_110 os90 rfl rfl (q_cat rfl) (Nat.le_of_ble_eq_true rfl) hd h ?_
    rintro v M5 ⟨r6, rfl, h⟩
    show q_Ex X d 29 (37 + 3) [some (.ref 11), some (.int a1), none, some (.int a3), some (.int a4), some (.int a5)] [.int r6] M5 _
    refine q_if_eq (pc := 40) 53 k29_40 (by decide) (fun g7 => ?_) (fun g7 => ?_)
    · replace h := h.1 g7
      refine q_iload (pc := 53) k29_53 rfl ?_
      refine q_iconst (pc := 55) (v := 1) k29_55 (by decide) ?_
      refine q_iadd (pc := 56) k29_56 ?_
      refine q_istore (pc := 57) [some (.ref 11), some (.int a1), none, some (.int a3), some (.int (a4 + 1)), some (.int a5)] k29_57 rfl (by decide) rfl ?_
      refine q_iinc (pc := 59) (v := a5 + 1) [some (.ref 11), some (.int a1), none, some (.int a3), some (.int (a4 + 1)), some (.int (a5 + 1))] k29_59 rfl rfl rfl (by decide) rfl ?_
      refine q_goto (pc := 62) 23 k29_62 (by decide) ?_
      exact h
    · replace h := h.2 g7
      refine q_iload (pc := 43) k29_43 rfl ?_
      refine q_aload_n (pc := 45) k29_45 rfl ?_
      refine q_getIv (pc := 46) (v := M5 11 1) k29_46 fg29_34 rfl rfl rfl ?_
      refine q_iadd (pc := 49) k29_49 ?_
      refine q_goto (pc := 50) 57 k29_50 (by decide) ?_
      refine q_istore (pc := 57) [some (.ref 11), some (.int a1), none, some (.int a3), some (.int (a4 + (M5 11 1))), some (.int a5)] k29_57 rfl (by decide) rfl ?_
      refine q_iinc (pc := 59) (v := a5 + 1) [some (.ref 11), some (.int a1), none, some (.int a3), some (.int (a4 + (M5 11 1))), some (.int (a5 + 1))] k29_59 rfl rfl rfl (by decide) rfl ?_
      refine q_goto (pc := 62) 23 k29_62 (by decide) ?_
      exact h
set_option maxRecDepth 20000 in
theorem vc30 {X : Nat × (Nat → Int32)} {d : Nat} {M : q_M} {K : q_M → Prop} (h : q_Ex X d 30 12 [some (.ref 64), some (.int 0)] [] (q_set (q_set M 64 0 0) 64 1 0) (q_rn K)) : q_Cv X d 30 [.ref 64] M K := by
  show q_Ex X d 30 0 [some (.ref 64), none] [] M (q_rn K)
  refine q_aload_n (pc := 0) k30_0 rfl ?_
  refine q_iconst (pc := 1) (v := 0) k30_1 (by decide) ?_
  refine q_putI (pc := 2) k30_2 fp30_40 rfl rfl ?_
  refine q_aload_n (pc := 5) k30_5 rfl ?_
  refine q_iconst (pc := 6) (v := 0) k30_6 (by decide) ?_
  refine q_putI (pc := 7) k30_7 fp30_44 rfl rfl ?_
  refine q_iconst (pc := 10) (v := 0) k30_10 (by decide) ?_
  refine q_istore_n (pc := 11) [some (.ref 64), some (.int 0)] k30_11 rfl (by decide) rfl ?_
  exact h
set_option maxRecDepth 20000 in
theorem vc30_p12 {X : Nat × (Nat → Int32)} {d : Nat} (hd : 0 < d) {M : q_M} {a1 : Int32} {K : q_M → Prop} (h : ((9 ≤ a1) → (q_Cv X (d - 1) 31 [.ref 64, .int 0, .int 0, .int 0, .int 0] M (fun M2 => q_Ex X d 30 70 [some (.ref 64), some (.int 0)] [] M2 (q_rn K)))) ∧ ((¬ 9 ≤ a1) → (vp_in a1 9 ∧ (vp_in a1 9 ∧ (vp_in a1 9 ∧ (q_Cv X (d - 1) 158 [.ref (69 + Int32.toNatClampNeg a1), .int 0] (q_set (q_set M 66 (Int32.toNatClampNeg a1) 0) 67 (Int32.toNatClampNeg a1) 0) (fun M4 => vp_in a1 9 ∧ (q_Cv X (d - 1) 158 [.ref (79 + Int32.toNatClampNeg a1), .int 0] M4 (fun M6 => q_Ex X d 30 12 [some (.ref 64), some (.int (a1 + 1))] [] M6 (q_rn K)))))))))) : q_Ex X d 30 12 [some (.ref 64), some (.int a1)] [] M (q_rn K) := by
  refine q_iload_n (pc := 12) k30_12 rfl ?_
  refine q_getsN (pc := 13) k30_13 (j := 0) (by decide) fs30_15 ?_
  refine q_rlen (pc := 16) (j := 0) (v := 9) k30_16 (by decide) rfl ?_
  refine q_icmp_ge (pc := 17) 60 k30_17 (by decide) (fun g1 => ?_) (fun g1 => ?_)
  · replace h := h.1 g1
    refine q_aload_n (pc := 60) k30_60 rfl ?_
    refine q_iconst (pc := 61) (v := 0) k30_61 (by decide) ?_
    refine q_iconst (pc := 62) (v := 0) k30_62 (by decide) ?_
    refine q_iconst (pc := 63) (v := 0) k30_63 (by decide) ?_
    refine q_iconst (pc := 64) (v := 0) k30_64 (by decide) ?_
    refine q_invV (pc := 65) (As := [.int 0, .int 0, .int 0, .int 0]) (st := []) k30_65 lm30_53 ov31 rfl rfl rfl (q_cat rfl) (Nat.le_of_ble_eq_true rfl) hd h ?_
    rintro v M2 ⟨rfl, h⟩
    show q_Ex X d 30 (65 + 3) [some (.ref 64), some (.int a1)] [] M2 _
    refine q_iconst (pc := 68) (v := 0) k30_68 (by decide) ?_
    refine q_istore_n (pc := 69) [some (.ref 64), some (.int 0)] k30_69 rfl (by decide) rfl ?_
    exact h
  · replace h := h.2 g1
    refine q_aload_n (pc := 20) k30_20 rfl ?_
    refine q_getR (pc := 21) k30_21 fg30_18 rfl rfl ?_
    refine q_iload_n (pc := 24) k30_24 rfl ?_
    refine q_iconst (pc := 25) (v := 0) k30_25 (by decide) ?_
    refine q_iastv (pc := 26) (k := (Int32.toNatClampNeg a1)) k30_26 rfl h.1 rfl ?_
    replace h := h.2
    refine q_aload_n (pc := 27) k30_27 rfl ?_
    refine q_getR (pc := 28) k30_28 fg30_21 rfl rfl ?_
    refine q_iload_n (pc := 31) k30_31 rfl ?_
    refine q_iconst (pc := 32) (v := 0) k30_32 (by decide) ?_
    refine q_iastv (pc := 33) (k := (Int32.toNatClampNeg a1)) k30_33 rfl h.1 rfl ?_
    replace h := h.2
    refine q_aload_n (pc := 34) k30_34 rfl ?_
    refine q_getR (pc := 35) k30_35 fg30_26 rfl rfl ?_
    refine q_iload_n (pc := 38) k30_38 rfl ?_
    have w3 := h.1
    replace h := h.2
    refine q_aald (pc := 39) k30_39 rfl w3 ?_
    refine q_iconst (pc := 40) (v := 0) k30_40 (by decide) ?_
    refine q_invS (pc := 41) (As := [.ref (69 + Int32.toNatClampNeg a1), .int 0]) (st := []) k30_41 lm30_47 os158 rfl rfl (q_cat rfl) (Nat.le_of_ble_eq_true rfl) hd h ?_
    rintro v M4 ⟨rfl, h⟩
    show q_Ex X d 30 (41 + 3) [some (.ref 64), some (.int a1)] [] M4 _
    refine q_aload_n (pc := 44) k30_44 rfl ?_
    refine q_getR (pc := 45) k30_45 fg30_29 rfl rfl ?_
    refine q_iload_n (pc := 48) k30_48 rfl ?_
    have w5 := h.1
    replace h := h.2
    refine q_aald (pc := 49) k30_49 rfl w5 ?_
    refine q_iconst (pc := 50) (v := 0) k30_50 (by decide) ?_
    refine q_invS (pc := 51) (As := [.ref (79 + Int32.toNatClampNeg a1), .int 0]) (st := []) k30_51 lm30_47 os158 rfl rfl (q_cat rfl) (Nat.le_of_ble_eq_true rfl) hd h ?_
    rintro v M6 ⟨rfl, h⟩
    show q_Ex X d 30 (51 + 3) [some (.ref 64), some (.int a1)] [] M6 _
    refine q_iinc (pc := 54) (v := a1 + 1) [some (.ref 64), some (.int (a1 + 1))] k30_54 rfl rfl rfl (by decide) rfl ?_
    refine q_goto (pc := 57) 12 k30_57 (by decide) ?_
    exact h
set_option maxRecDepth 20000 in
theorem vc30_p70 {X : Nat × (Nat → Int32)} {d : Nat} (hd : 0 < d) {M : q_M} {a1 : Int32} {K : q_M → Prop} (h : (((M 11 4) ≤ a1) → (K M)) ∧ ((¬ (M 11 4) ≤ a1) → (q_Ci X (d - 1) 25 [.ref 11, .int a1] M (fun r3 M2 => q_Ci X (d - 1) 26 [.ref 11, .int a1] M2 (fun r5 M4 => q_Ex X d 30 70 [some (.ref 64), some (.int (a1 + 1))] [] (q_set M4 64 1 ((M 64 1) &&& ((((1 : Int32) <<< (r3 &&& 31)) ^^^ (-1)) &&& (((1 : Int32) <<< (r5 &&& 31)) ^^^ (-1))))) (q_rn K)))))) : q_Ex X d 30 70 [some (.ref 64), some (.int a1)] [] M (q_rn K) := by
  refine q_iload_n (pc := 70) k30_70 rfl ?_
  refine q_aload_n (pc := 71) k30_71 rfl ?_
  refine q_getR (pc := 72) k30_72 fg30_32 rfl rfl ?_
  refine q_getIv (pc := 75) (v := M 11 4) k30_75 fg30_57 rfl rfl rfl ?_
  refine q_icmp_ge (pc := 78) 121 k30_78 (by decide) (fun g1 => ?_) (fun g1 => ?_)
  · replace h := h.1 g1
    exact q_return (pc := 121) k30_121 rfl ⟨rfl, h⟩
  · replace h := h.2 g1
    refine q_aload_n (pc := 81) k30_81 rfl ?_
    refine q_dup (pc := 82) k30_82 rfl ?_
    refine q_getIv (pc := 83) (v := M 64 1) k30_83 fg30_44 rfl rfl rfl ?_
    refine q_iconst (pc := 86) (v := 1) k30_86 (by decide) ?_
    refine q_aload_n (pc := 87) k30_87 rfl ?_
    refine q_getR (pc := 88) k30_88 fg30_32 rfl rfl ?_
    refine q_iload_n (pc := 91) k30_91 rfl ?_
    refine q_invV (pc := 92) (As := [.int a1]) (st := [.int 1, .int (M 64 1), .ref 64]) k30_92 lm30_62 ov25 rfl rfl rfl (q_cat rfl) (Nat.le_of_ble_eq_true rfl) hd h ?_
    rintro v M2 ⟨r3, rfl, h⟩
    show q_Ex X d 30 (92 + 3) [some (.ref 64), some (.int a1)] [.int r3, .int 1, .int (M 64 1), .ref 64] M2 _
    refine q_ishl (pc := 95) k30_95 ?_
    refine q_iconst (pc := 96) (v := (-1)) k30_96 (by decide) ?_
    refine q_ixor (pc := 97) k30_97 ?_
    refine q_iconst (pc := 98) (v := 1) k30_98 (by decide) ?_
    refine q_aload_n (pc := 99) k30_99 rfl ?_
    refine q_getR (pc := 100) k30_100 fg30_32 rfl rfl ?_
    refine q_iload_n (pc := 103) k30_103 rfl ?_
    refine q_invV (pc := 104) (As := [.int a1]) (st := [.int 1, .int (((1 : Int32) <<< (r3 &&& 31)) ^^^ (-1)), .int (M 64 1), .ref 64]) k30_104 lm30_66 ov26 rfl rfl rfl (q_cat rfl) (Nat.le_of_ble_eq_true rfl) hd h ?_
    rintro v M4 ⟨r5, rfl, h⟩
    show q_Ex X d 30 (104 + 3) [some (.ref 64), some (.int a1)] [.int r5, .int 1, .int (((1 : Int32) <<< (r3 &&& 31)) ^^^ (-1)), .int (M 64 1), .ref 64] M4 _
    refine q_ishl (pc := 107) k30_107 ?_
    refine q_iconst (pc := 108) (v := (-1)) k30_108 (by decide) ?_
    refine q_ixor (pc := 109) k30_109 ?_
    refine q_iand (pc := 110) k30_110 ?_
    refine q_iand (pc := 111) k30_111 ?_
    refine q_putI (pc := 112) k30_112 fp30_44 rfl rfl ?_
    refine q_iinc (pc := 115) (v := a1 + 1) [some (.ref 64), some (.int (a1 + 1))] k30_115 rfl rfl rfl (by decide) rfl ?_
    refine q_goto (pc := 118) 70 k30_118 (by decide) ?_
    exact h
set_option maxRecDepth 20000 in
theorem vc31 {X : Nat × (Nat → Int32)} {d : Nat} (hd : 0 < d) {M : q_M} {a1 a2 a3 a4 : Int32} {K : q_M → Prop} (h : ((a1 < (M 44 1)) → (q_Cv X (d - 1) 31 [.ref 64, .int (a1 + 1), .int a2, .int a3, .int a4] M (fun M2 => q_Ex X d 31 34 [some (.ref 64), some (.int a1), some (.int a2), some (.int a3), some (.int a4), some (.int 0), none] [] M2 (q_rn K)))) ∧ ((¬ a1 < (M 44 1)) → (q_Cv X (d - 1) 32 [.ref 64, .int a2, .int a3, .int a4] M (fun M3 => K M3)))) : q_Cv X d 31 [.ref 64, .int a1, .int a2, .int a3, .int a4] M K := by
  show q_Ex X d 31 0 [some (.ref 64), some (.int a1), some (.int a2), some (.int a3), some (.int a4), none, none] [] M (q_rn K)
  refine q_iload_n (pc := 0) k31_0 rfl ?_
  refine q_aload_n (pc := 1) k31_1 rfl ?_
  refine q_getR (pc := 2) k31_2 fg31_36 rfl rfl ?_
  refine q_getIv (pc := 5) (v := M 44 1) k31_5 fg31_69 rfl rfl rfl ?_
  refine q_icmp_lt (pc := 8) 20 k31_8 (by decide) (fun g1 => ?_) (fun g1 => ?_)
  · replace h := h.1 g1
    refine q_aload_n (pc := 20) k31_20 rfl ?_
    refine q_iload_n (pc := 21) k31_21 rfl ?_
    refine q_iconst (pc := 22) (v := 1) k31_22 (by decide) ?_
    refine q_iadd (pc := 23) k31_23 ?_
    refine q_iload_n (pc := 24) k31_24 rfl ?_
    refine q_iload_n (pc := 25) k31_25 rfl ?_
    refine q_iload (pc := 26) k31_26 rfl ?_
    refine q_invV (pc := 28) (As := [.int (a1 + 1), .int a2, .int a3, .int a4]) (st := []) k31_28 lm31_53 ov31 rfl rfl rfl (q_cat rfl) (Nat.le_of_ble_eq_true rfl) hd h ?_
    rintro v M2 ⟨rfl, h⟩
    show q_Ex X d 31 (28 + 3) [some (.ref 64), some (.int a1), some (.int a2), some (.int a3), some (.int a4), none, none] [] M2 _
    refine q_iconst (pc := 31) (v := 0) k31_31 (by decide) ?_
    refine q_istore (pc := 32) [some (.ref 64), some (.int a1), some (.int a2), some (.int a3), some (.int a4), some (.int 0), none] k31_32 rfl (by decide) rfl ?_
    exact h
  · replace h := h.2 g1
    refine q_aload_n (pc := 11) k31_11 rfl ?_
    refine q_iload_n (pc := 12) k31_12 rfl ?_
    refine q_iload_n (pc := 13) k31_13 rfl ?_
    refine q_iload (pc := 14) k31_14 rfl ?_
    refine q_invV (pc := 16) (As := [.int a2, .int a3, .int a4]) (st := []) k31_16 lm31_72 ov32 rfl rfl rfl (q_cat rfl) (Nat.le_of_ble_eq_true rfl) hd h ?_
    rintro v M3 ⟨rfl, h⟩
    show q_Ex X d 31 (16 + 3) [some (.ref 64), some (.int a1), some (.int a2), some (.int a3), some (.int a4), none, none] [] M3 _
    exact q_return (pc := 19) k31_19 rfl ⟨rfl, h⟩
set_option maxRecDepth 20000 in
theorem vc31_p34 {X : Nat × (Nat → Int32)} {d : Nat} (hd : 0 < d) {M : q_M} {a1 a2 a3 a4 a5 : Int32} {K : q_M → Prop} (h : vp_in a1 3 ∧ ((((M 45 (Int32.toNatClampNeg a1)) ≤ a5) → (K M)) ∧ ((¬ (M 45 (Int32.toNatClampNeg a1)) ≤ a5) → (vp_in a1 3 ∧ (vp_in a5 126 ∧ (((¬ ((M (47 + Int32.toNatClampNeg a1) (Int32.toNatClampNeg a5)) &&& a2) = 0) → (q_Ex X d 31 34 [some (.ref 64), some (.int a1), some (.int a2), some (.int a3), some (.int a4), some (.int (a5 + 1)), none] [] M (q_rn K))) ∧ ((((M (47 + Int32.toNatClampNeg a1) (Int32.toNatClampNeg a5)) &&& a2) = 0) → (vp_in a1 3 ∧ (vp_in a1 3 ∧ (vp_in a1 3 ∧ (vp_in a5 126 ∧ (q_Cv X (d - 1) 31 [.ref 64, .int (a1 + 1), .int (a2 ||| (M (47 + Int32.toNatClampNeg a1) (Int32.toNatClampNeg a5))), .int (a3 + 1), .int (a4 + (((q_rc X 2).2 (Int32.toNatClampNeg a1)) * ((q_set M 65 (Int32.toNatClampNeg a1) (M (47 + Int32.toNatClampNeg a1) (Int32.toNatClampNeg a5))) (51 + Int32.toNatClampNeg a1) (Int32.toNatClampNeg a5))))] (q_set M 65 (Int32.toNatClampNeg a1) (M (47 + Int32.toNatClampNeg a1) (Int32.toNatClampNeg a5))) (fun M5 => q_Ex X d 31 34 [some (.ref 64), some (.int a1), some (.int a2), some (.int a3), some (.int a4), some (.int (a5 + 1)), none] [] M5 (q_rn K)))))))))))))) : q_Ex X d 31 34 [some (.ref 64), some (.int a1), some (.int a2), some (.int a3), some (.int a4), some (.int a5), none] [] M (q_rn K) := by
  refine q_iload (pc := 34) k31_34 rfl ?_
  refine q_aload_n (pc := 36) k31_36 rfl ?_
  refine q_getR (pc := 37) k31_37 fg31_36 rfl rfl ?_
  refine q_getR (pc := 40) k31_40 fg31_76 rfl rfl ?_
  refine q_iload_n (pc := 43) k31_43 rfl ?_
  refine q_ialdv (pc := 44) (v := M 45 (Int32.toNatClampNeg a1)) k31_44 rfl h.1 rfl ?_
  replace h := h.2
  refine q_icmp_ge (pc := 45) 118 k31_45 (by decide) (fun g1 => ?_) (fun g1 => ?_)
  · replace h := h.1 g1
    exact q_return (pc := 118) k31_118 rfl ⟨rfl, h⟩
  · replace h := h.2 g1
    refine q_aload_n (pc := 48) k31_48 rfl ?_
    refine q_getR (pc := 49) k31_49 fg31_36 rfl rfl ?_
    refine q_getR (pc := 52) k31_52 fg31_79 rfl rfl ?_
    refine q_iload_n (pc := 55) k31_55 rfl ?_
    have w2 := h.1
    replace h := h.2
    refine q_aald (pc := 56) k31_56 rfl w2 ?_
    refine q_iload (pc := 57) k31_57 rfl ?_
    refine q_ialdv (pc := 59) (v := M (47 + Int32.toNatClampNeg a1) (Int32.toNatClampNeg a5)) k31_59 (rw46 w2) h.1 rfl ?_
    replace h := h.2
    refine q_istore (pc := 60) [some (.ref 64), some (.int a1), some (.int a2), some (.int a3), some (.int a4), some (.int a5), some (.int (M (47 + Int32.toNatClampNeg a1) (Int32.toNatClampNeg a5)))] k31_60 rfl (by decide) rfl ?_
    refine q_iload (pc := 62) k31_62 rfl ?_
    refine q_iload_n (pc := 64) k31_64 rfl ?_
    refine q_iand (pc := 65) k31_65 ?_
    refine q_if_ne (pc := 66) 112 k31_66 (by decide) (fun g3 => ?_) (fun g3 => ?_)
    · replace h := h.1 g3
      refine q_iinc (pc := 112) (v := a5 + 1) [some (.ref 64), some (.int a1), some (.int a2), some (.int a3), some (.int a4), some (.int (a5 + 1)), some (.int (M (47 + Int32.toNatClampNeg a1) (Int32.toNatClampNeg a5)))] k31_112 rfl rfl rfl (by decide) rfl ?_
      refine q_goto (pc := 115) 34 k31_115 (by decide) ?_
      exact q_forget [some (.ref 64), some (.int a1), some (.int a2), some (.int a3), some (.int a4), some (.int (a5 + 1)), none] (q_subOk (And.intro rfl (And.intro rfl (And.intro rfl (And.intro rfl (And.intro rfl (And.intro rfl (trivial)))))))) h
    · replace h := h.2 g3
      refine q_aload_n (pc := 69) k31_69 rfl ?_
      refine q_getR (pc := 70) k31_70 fg31_9 rfl rfl ?_
      refine q_iload_n (pc := 73) k31_73 rfl ?_
      refine q_iload (pc := 74) k31_74 rfl ?_
      refine q_iastv (pc := 76) (k := (Int32.toNatClampNeg a1)) k31_76 rfl h.1 rfl ?_
      replace h := h.2
      refine q_aload_n (pc := 77) k31_77 rfl ?_
      refine q_iload_n (pc := 78) k31_78 rfl ?_
      refine q_iconst (pc := 79) (v := 1) k31_79 (by decide) ?_
      refine q_iadd (pc := 80) k31_80 ?_
      refine q_iload_n (pc := 81) k31_81 rfl ?_
      refine q_iload (pc := 82) k31_82 rfl ?_
      refine q_ior (pc := 84) k31_84 ?_
      refine q_iload_n (pc := 85) k31_85 rfl ?_
      refine q_iconst (pc := 86) (v := 1) k31_86 (by decide) ?_
      refine q_iadd (pc := 87) k31_87 ?_
      refine q_iload (pc := 88) k31_88 rfl ?_
      refine q_getsN (pc := 90) k31_90 (j := 2) (by decide) fs31_82 ?_
      refine q_iload_n (pc := 93) k31_93 rfl ?_
      refine q_raldv (pc := 94) (j := 2) (v := (q_rc X 2).2 (Int32.toNatClampNeg a1)) k31_94 (by decide) h.1 rfl ?_
      replace h := h.2
      refine q_aload_n (pc := 95) k31_95 rfl ?_
      refine q_getR (pc := 96) k31_96 fg31_36 rfl rfl ?_
      refine q_getR (pc := 99) k31_99 fg31_85 rfl rfl ?_
      refine q_iload_n (pc := 102) k31_102 rfl ?_
      have w4 := h.1
      replace h := h.2
      refine q_aald (pc := 103) k31_103 rfl w4 ?_
      refine q_iload (pc := 104) k31_104 rfl ?_
      refine q_ialdv (pc := 106) (v := (q_set M 65 (Int32.toNatClampNeg a1) (M (47 + Int32.toNatClampNeg a1) (Int32.toNatClampNeg a5))) (51 + Int32.toNatClampNeg a1) (Int32.toNatClampNeg a5)) k31_106 (rw50 w4) h.1 rfl ?_
      replace h := h.2
      refine q_imul (pc := 107) k31_107 ?_
      refine q_iadd (pc := 108) k31_108 ?_
      refine q_invV (pc := 109) (As := [.int (a1 + 1), .int (a2 ||| (M (47 + Int32.toNatClampNeg a1) (Int32.toNatClampNeg a5))), .int (a3 + 1), .int (a4 + (((q_rc X 2).2 (Int32.toNatClampNeg a1)) * ((q_set M 65 (Int32.toNatClampNeg a1) (M (47 + Int32.toNatClampNeg a1) (Int32.toNatClampNeg a5))) (51 + Int32.toNatClampNeg a1) (Int32.toNatClampNeg a5))))]) (st := []) k31_109 lm31_53 ov31 rfl rfl rfl (q_cat rfl) (Nat.le_of_ble_eq_true rfl) hd h ?_
      rintro v M5 ⟨rfl, h⟩
      show q_Ex X d 31 (109 + 3) [some (.ref 64), some (.int a1), some (.int a2), some (.int a3), some (.int a4), some (.int a5), some (.int (M (47 + Int32.toNatClampNeg a1) (Int32.toNatClampNeg a5)))] [] M5 _
      refine q_iinc (pc := 112) (v := a5 + 1) [some (.ref 64), some (.int a1), some (.int a2), some (.int a3), some (.int a4), some (.int (a5 + 1)), some (.int (M (47 + Int32.toNatClampNeg a1) (Int32.toNatClampNeg a5)))] k31_112 rfl rfl rfl (by decide) rfl ?_
      refine q_goto (pc := 115) 34 k31_115 (by decide) ?_
      exact q_forget [some (.ref 64), some (.int a1), some (.int a2), some (.int a3), some (.int a4), some (.int (a5 + 1)), none] (q_subOk (And.intro rfl (And.intro rfl (And.intro rfl (And.intro rfl (And.intro rfl (And.intro rfl (trivial)))))))) h
