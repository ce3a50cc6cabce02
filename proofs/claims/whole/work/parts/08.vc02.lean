set_option maxRecDepth 20000 in
theorem vc21 {X : Nat × (Nat → Int32)} {d : Nat} {M : q_M} {a1 a2 a3 : Int32} {K : Int32 → q_M → Prop} (h : vp_in (M 3 2) 30 ∧ (vp_in (M 3 2) 30 ∧ (vp_in (M 3 2) 30 ∧ (K 1 (q_set (q_set (q_set (q_set (q_set M 4 (Int32.toNatClampNeg (M 3 2)) a1) 5 (Int32.toNatClampNeg (M 3 2)) a2) 6 (Int32.toNatClampNeg (M 3 2)) a3) 3 2 ((M 3 2) + 1)) 3 11 ((M 3 11) + 1)))))) : q_Ci X d 21 [.ref 3, .int a1, .int a2, .int a3] M K := by
  show q_Ex X d 21 0 [some (.ref 3), some (.int a1), some (.int a2), some (.int a3)] [] M (q_ri K)
  refine q_aload_n (pc := 0) k21_0 rfl ?_
  refine q_getR (pc := 1) k21_1 fg21_9 rfl rfl ?_
  refine q_aload_n (pc := 4) k21_4 rfl ?_
  refine q_getIv (pc := 5) (v := M 3 2) k21_5 fg21_37 rfl rfl rfl ?_
  refine q_iload_n (pc := 8) k21_8 rfl ?_
  refine q_iastv (pc := 9) (k := (Int32.toNatClampNeg (M 3 2))) k21_9 rfl h.1 rfl ?_
  replace h := h.2
  refine q_aload_n (pc := 10) k21_10 rfl ?_
  refine q_getR (pc := 11) k21_11 fg21_15 rfl rfl ?_
  refine q_aload_n (pc := 14) k21_14 rfl ?_
  refine q_getIv (pc := 15) (v := M 3 2) k21_15 fg21_37 rfl rfl rfl ?_
  refine q_iload_n (pc := 18) k21_18 rfl ?_
  refine q_iastv (pc := 19) (k := (Int32.toNatClampNeg (M 3 2))) k21_19 rfl h.1 rfl ?_
  replace h := h.2
  refine q_aload_n (pc := 20) k21_20 rfl ?_
  refine q_getR (pc := 21) k21_21 fg21_18 rfl rfl ?_
  refine q_aload_n (pc := 24) k21_24 rfl ?_
  refine q_getIv (pc := 25) (v := M 3 2) k21_25 fg21_37 rfl rfl rfl ?_
  refine q_iload_n (pc := 28) k21_28 rfl ?_
  refine q_iastv (pc := 29) (k := (Int32.toNatClampNeg (M 3 2))) k21_29 rfl h.1 rfl ?_
  replace h := h.2
  refine q_aload_n (pc := 30) k21_30 rfl ?_
  refine q_dup (pc := 31) k21_31 rfl ?_
  refine q_getIv (pc := 32) (v := M 3 2) k21_32 fg21_37 rfl rfl rfl ?_
  refine q_iconst (pc := 35) (v := 1) k21_35 (by decide) ?_
  refine q_iadd (pc := 36) k21_36 ?_
  refine q_putI (pc := 37) k21_37 fp21_37 rfl rfl ?_
  refine q_aload_n (pc := 40) k21_40 rfl ?_
  refine q_dup (pc := 41) k21_41 rfl ?_
  refine q_getIv (pc := 42) (v := M 3 11) k21_42 fg21_69 rfl rfl rfl ?_
  refine q_iconst (pc := 45) (v := 1) k21_45 (by decide) ?_
  refine q_iadd (pc := 46) k21_46 ?_
  refine q_putI (pc := 47) k21_47 fp21_69 rfl rfl ?_
  refine q_iconst (pc := 50) (v := 1) k21_50 (by decide) ?_
  exact q_zreturn (pc := 51) k21_51 rfl (by decide) ⟨_, rfl, h⟩
set_option maxRecDepth 20000 in
theorem vc22 {X : Nat × (Nat → Int32)} {d : Nat} {M : q_M} {K : Int32 → q_M → Prop} (h : q_Ex X d 22 2 [some (.ref 3), some (.int 0), none, none] [] M (q_ri K)) : q_Ci X d 22 [.ref 3] M K := by
  show q_Ex X d 22 0 [some (.ref 3), none, none, none] [] M (q_ri K)
  refine q_iconst (pc := 0) (v := 0) k22_0 (by decide) ?_
  refine q_istore_n (pc := 1) [some (.ref 3), some (.int 0), none, none] k22_1 rfl (by decide) rfl ?_
  exact h
set_option maxRecDepth 20000 in
theorem vc22_p2 {X : Nat × (Nat → Int32)} {d : Nat} {M : q_M} {a1 : Int32} {K : Int32 → q_M → Prop} (h : ((3 ≤ a1) → ((((M 3 4) ≤ 0) → (K 0 M)) ∧ ((¬ (M 3 4) ≤ 0) → (K 1 M)))) ∧ ((¬ 3 ≤ a1) → (vp_in a1 3 ∧ ((((M 7 (Int32.toNatClampNeg a1)) < 0) → (vp_in a1 3 ∧ ((((M 8 (Int32.toNatClampNeg a1)) < 0) → (q_Ex X d 22 2 [some (.ref 3), some (.int (a1 + 1)), none, none] [] M (q_ri K))) ∧ ((¬ (M 8 (Int32.toNatClampNeg a1)) < 0) → (K 0 M))))) ∧ ((¬ (M 7 (Int32.toNatClampNeg a1)) < 0) → (vp_in a1 3 ∧ ((((M 8 (Int32.toNatClampNeg a1)) < 0) → (K 0 M)) ∧ ((¬ (M 8 (Int32.toNatClampNeg a1)) < 0) → (((a1 = (M 3 4)) → (q_Ex X d 22 2 [some (.ref 3), some (.int (a1 + 1)), none, none] [] (q_set M 3 4 ((M 3 4) + 1)) (q_ri K))) ∧ ((¬ a1 = (M 3 4)) → (K 0 M))))))))))) : q_Ex X d 22 2 [some (.ref 3), some (.int a1), none, none] [] M (q_ri K) := by
  refine q_iload_n (pc := 2) k22_2 rfl ?_
  refine q_iconst (pc := 3) (v := 3) k22_3 (by decide) ?_
  refine q_icmp_ge (pc := 4) 76 k22_4 (by decide) (fun g => ?_) (fun g => ?_)
  · replace h := h.1 g
    refine q_aload_n (pc := 76) k22_76 rfl ?_
    refine q_getIv (pc := 77) (v := M 3 4) k22_77 fg22_43 rfl rfl rfl ?_
    refine q_if_le (pc := 80) 87 k22_80 (by decide) (fun g => ?_) (fun g => ?_)
    · replace h := h.1 g
      refine q_iconst (pc := 87) (v := 0) k22_87 (by decide) ?_
      exact q_zreturn (pc := 88) k22_88 rfl (by decide) ⟨_, rfl, h⟩
    · replace h := h.2 g
      refine q_iconst (pc := 83) (v := 1) k22_83 (by decide) ?_
      refine q_goto (pc := 84) 88 k22_84 (by decide) ?_
      exact q_zreturn (pc := 88) k22_88 rfl (by decide) ⟨_, rfl, h⟩
  · replace h := h.2 g
    refine q_aload_n (pc := 7) k22_7 rfl ?_
    refine q_getR (pc := 8) k22_8 fg22_21 rfl rfl ?_
    refine q_iload_n (pc := 11) k22_11 rfl ?_
    refine q_ialdv (pc := 12) (v := M 7 (Int32.toNatClampNeg a1)) k22_12 rfl h.1 rfl ?_
    replace h := h.2
    refine q_if_lt (pc := 13) 20 k22_13 (by decide) (fun g => ?_) (fun g => ?_)
    · replace h := h.1 g
      refine q_iconst (pc := 20) (v := 0) k22_20 (by decide) ?_
      refine q_istore_n (pc := 21) [some (.ref 3), some (.int a1), some (.int 0), none] k22_21 rfl (by decide) rfl ?_
      refine q_aload_n (pc := 22) k22_22 rfl ?_
      refine q_getR (pc := 23) k22_23 fg22_24 rfl rfl ?_
      refine q_iload_n (pc := 26) k22_26 rfl ?_
      refine q_ialdv (pc := 27) (v := M 8 (Int32.toNatClampNeg a1)) k22_27 rfl h.1 rfl ?_
      replace h := h.2
      refine q_if_lt (pc := 28) 35 k22_28 (by decide) (fun g => ?_) (fun g => ?_)
      · replace h := h.1 g
        refine q_iconst (pc := 35) (v := 0) k22_35 (by decide) ?_
        refine q_istore_n (pc := 36) [some (.ref 3), some (.int a1), some (.int 0), some (.int 0)] k22_36 rfl (by decide) rfl ?_
        refine q_iload_n (pc := 37) k22_37 rfl ?_
        refine q_iload_n (pc := 38) k22_38 rfl ?_
        refine q_icmp_ne (pc := 39) 54 k22_39 (by decide) (fun g => absurd g (by decide)) (fun _ => ?_)
        refine q_iload_n (pc := 42) k22_42 rfl ?_
        refine q_if_eq (pc := 43) 56 k22_43 (by decide) (fun _ => ?_) (fun g => absurd g (by decide))
        refine q_iload_n (pc := 56) k22_56 rfl ?_
        refine q_if_eq (pc := 57) 70 k22_57 (by decide) (fun _ => ?_) (fun g => absurd g (by decide))
        refine q_iinc (pc := 70) (v := a1 + 1) [some (.ref 3), some (.int (a1 + 1)), some (.int 0), some (.int 0)] k22_70 rfl rfl rfl (by decide) rfl ?_
        refine q_goto (pc := 73) 2 k22_73 (by decide) ?_
        exact q_forget [some (.ref 3), some (.int (a1 + 1)), none, none] (q_subOk (And.intro rfl (And.intro rfl (trivial)))) h
      · replace h := h.2 g
        refine q_iconst (pc := 31) (v := 1) k22_31 (by decide) ?_
        refine q_goto (pc := 32) 36 k22_32 (by decide) ?_
        refine q_istore_n (pc := 36) [some (.ref 3), some (.int a1), some (.int 0), some (.int 1)] k22_36 rfl (by decide) rfl ?_
        refine q_iload_n (pc := 37) k22_37 rfl ?_
        refine q_iload_n (pc := 38) k22_38 rfl ?_
        refine q_icmp_ne (pc := 39) 54 k22_39 (by decide) (fun _ => ?_) (fun g => absurd g (by decide))
        refine q_iconst (pc := 54) (v := 0) k22_54 (by decide) ?_
        exact q_zreturn (pc := 55) k22_55 rfl (by decide) ⟨_, rfl, h⟩
    · replace h := h.2 g
      refine q_iconst (pc := 16) (v := 1) k22_16 (by decide) ?_
      refine q_goto (pc := 17) 21 k22_17 (by decide) ?_
      refine q_istore_n (pc := 21) [some (.ref 3), some (.int a1), some (.int 1), none] k22_21 rfl (by decide) rfl ?_
      refine q_aload_n (pc := 22) k22_22 rfl ?_
      refine q_getR (pc := 23) k22_23 fg22_24 rfl rfl ?_
      refine q_iload_n (pc := 26) k22_26 rfl ?_
      refine q_ialdv (pc := 27) (v := M 8 (Int32.toNatClampNeg a1)) k22_27 rfl h.1 rfl ?_
      replace h := h.2
      refine q_if_lt (pc := 28) 35 k22_28 (by decide) (fun g => ?_) (fun g => ?_)
      · replace h := h.1 g
        refine q_iconst (pc := 35) (v := 0) k22_35 (by decide) ?_
        refine q_istore_n (pc := 36) [some (.ref 3), some (.int a1), some (.int 1), some (.int 0)] k22_36 rfl (by decide) rfl ?_
        refine q_iload_n (pc := 37) k22_37 rfl ?_
        refine q_iload_n (pc := 38) k22_38 rfl ?_
        refine q_icmp_ne (pc := 39) 54 k22_39 (by decide) (fun _ => ?_) (fun g => absurd g (by decide))
        refine q_iconst (pc := 54) (v := 0) k22_54 (by decide) ?_
        exact q_zreturn (pc := 55) k22_55 rfl (by decide) ⟨_, rfl, h⟩
      · replace h := h.2 g
        refine q_iconst (pc := 31) (v := 1) k22_31 (by decide) ?_
        refine q_goto (pc := 32) 36 k22_32 (by decide) ?_
        refine q_istore_n (pc := 36) [some (.ref 3), some (.int a1), some (.int 1), some (.int 1)] k22_36 rfl (by decide) rfl ?_
        refine q_iload_n (pc := 37) k22_37 rfl ?_
        refine q_iload_n (pc := 38) k22_38 rfl ?_
        refine q_icmp_ne (pc := 39) 54 k22_39 (by decide) (fun g => absurd g (by decide)) (fun _ => ?_)
        refine q_iload_n (pc := 42) k22_42 rfl ?_
        refine q_if_eq (pc := 43) 56 k22_43 (by decide) (fun g => absurd g (by decide)) (fun _ => ?_)
        refine q_iload_n (pc := 46) k22_46 rfl ?_
        refine q_aload_n (pc := 47) k22_47 rfl ?_
        refine q_getIv (pc := 48) (v := M 3 4) k22_48 fg22_43 rfl rfl rfl ?_
        refine q_icmp_eq (pc := 51) 56 k22_51 (by decide) (fun g => ?_) (fun g => ?_)
        · replace h := h.1 g
          refine q_iload_n (pc := 56) k22_56 rfl ?_
          refine q_if_eq (pc := 57) 70 k22_57 (by decide) (fun g => absurd g (by decide)) (fun _ => ?_)
          refine q_aload_n (pc := 60) k22_60 rfl ?_
          refine q_dup (pc := 61) k22_61 rfl ?_
          refine q_getIv (pc := 62) (v := M 3 4) k22_62 fg22_43 rfl rfl rfl ?_
          refine q_iconst (pc := 65) (v := 1) k22_65 (by decide) ?_
          refine q_iadd (pc := 66) k22_66 ?_
          refine q_putI (pc := 67) k22_67 fp22_43 rfl rfl ?_
          refine q_iinc (pc := 70) (v := a1 + 1) [some (.ref 3), some (.int (a1 + 1)), some (.int 1), some (.int 1)] k22_70 rfl rfl rfl (by decide) rfl ?_
          refine q_goto (pc := 73) 2 k22_73 (by decide) ?_
          exact q_forget [some (.ref 3), some (.int (a1 + 1)), none, none] (q_subOk (And.intro rfl (And.intro rfl (trivial)))) h
        · replace h := h.2 g
          refine q_iconst (pc := 54) (v := 0) k22_54 (by decide) ?_
          exact q_zreturn (pc := 55) k22_55 rfl (by decide) ⟨_, rfl, h⟩
set_option maxRecDepth 20000 in
theorem vc20_7 {X : Nat × (Nat → Int32)} {d : Nat} (hd : 0 < d) {M : q_M} {a1 a2 : Int32} {K : Int32 → q_M → Prop} (h : ((a2 < 0) → (K 0 M)) ∧ ((¬ a2 < 0) → (((3 ≤ a2) → (K 0 M)) ∧ ((¬ 3 ≤ a2) → (vp_in a2 3 ∧ ((((M 7 (Int32.toNatClampNeg a2)) < 0) → (vp_in a2 3 ∧ (q_Ci X (d - 1) 21 [.ref 3, .int a1, .int 0, .int a2] (q_set M 7 (Int32.toNatClampNeg a2) (M 3 2)) (fun r2 M1 => (r2 = 0 ∨ r2 = 1) ∧ K r2 M1)))) ∧ ((¬ (M 7 (Int32.toNatClampNeg a2)) < 0) → (K 0 M)))))))) : q_Ci X d 20 [.ref 3, .int a1, .int a2, .ref 7] M K := by
  show q_Ex X d 20 0 [some (.ref 3), some (.int a1), some (.int a2), some (.ref 7)] [] M (q_ri K)
  refine q_iload_n (pc := 0) k20_0 rfl ?_
  refine q_if_lt (pc := 1) 16 k20_1 (by decide) (fun g => ?_) (fun g => ?_)
  · replace h := h.1 g
    refine q_iconst (pc := 16) (v := 0) k20_16 (by decide) ?_
    exact q_zreturn (pc := 17) k20_17 rfl (by decide) ⟨_, rfl, h⟩
  · replace h := h.2 g
    refine q_iload_n (pc := 4) k20_4 rfl ?_
    refine q_aload_n (pc := 5) k20_5 rfl ?_
    refine q_alen (pc := 6) (v := 3) k20_6 rfl rfl ?_
    refine q_icmp_ge (pc := 7) 16 k20_7 (by decide) (fun g => ?_) (fun g => ?_)
    · replace h := h.1 g
      refine q_iconst (pc := 16) (v := 0) k20_16 (by decide) ?_
      exact q_zreturn (pc := 17) k20_17 rfl (by decide) ⟨_, rfl, h⟩
    · replace h := h.2 g
      refine q_aload_n (pc := 10) k20_10 rfl ?_
      refine q_iload_n (pc := 11) k20_11 rfl ?_
      refine q_ialdv (pc := 12) (v := M 7 (Int32.toNatClampNeg a2)) k20_12 rfl h.1 rfl ?_
      replace h := h.2
      refine q_if_lt (pc := 13) 18 k20_13 (by decide) (fun g => ?_) (fun g => ?_)
      · replace h := h.1 g
        refine q_aload_n (pc := 18) k20_18 rfl ?_
        refine q_iload_n (pc := 19) k20_19 rfl ?_
        refine q_aload_n (pc := 20) k20_20 rfl ?_
        refine q_getIv (pc := 21) (v := M 3 2) k20_21 fg20_37 rfl rfl rfl ?_
        refine q_iastv (pc := 24) (k := (Int32.toNatClampNeg a2)) k20_24 rfl h.1 rfl ?_
        replace h := h.2
        refine q_aload_n (pc := 25) k20_25 rfl ?_
        refine q_iload_n (pc := 26) k20_26 rfl ?_
        refine q_iconst (pc := 27) (v := 0) k20_27 (by decide) ?_
        refine q_iload_n (pc := 28) k20_28 rfl ?_
        refine q_invV (pc := 29) (As := [.int a1, .int 0, .int a2]) (st := []) k20_29 lm20_81 ov21 rfl rfl rfl (q_cat rfl) (Nat.le_of_ble_eq_true rfl) hd h ?_
        rintro v M1 ⟨r2, rfl, h⟩
        show q_Ex X d 20 (29 + 3) [some (.ref 3), some (.int a1), some (.int a2), some (.ref 7)] [.int r2] M1 _
        exact q_zreturn (pc := 32) k20_32 rfl h.1 ⟨_, rfl, h.2⟩
      · replace h := h.2 g
        refine q_iconst (pc := 16) (v := 0) k20_16 (by decide) ?_
        exact q_zreturn (pc := 17) k20_17 rfl (by decide) ⟨_, rfl, h⟩
set_option maxRecDepth 20000 in
theorem vc20_8 {X : Nat × (Nat → Int32)} {d : Nat} (hd : 0 < d) {M : q_M} {a1 a2 : Int32} {K : Int32 → q_M → Prop} (h : ((a2 < 0) → (K 0 M)) ∧ ((¬ a2 < 0) → (((3 ≤ a2) → (K 0 M)) ∧ ((¬ 3 ≤ a2) → (vp_in a2 3 ∧ ((((M 8 (Int32.toNatClampNeg a2)) < 0) → (vp_in a2 3 ∧ (q_Ci X (d - 1) 21 [.ref 3, .int a1, .int 0, .int a2] (q_set M 8 (Int32.toNatClampNeg a2) (M 3 2)) (fun r2 M1 => (r2 = 0 ∨ r2 = 1) ∧ K r2 M1)))) ∧ ((¬ (M 8 (Int32.toNatClampNeg a2)) < 0) → (K 0 M)))))))) : q_Ci X d 20 [.ref 3, .int a1, .int a2, .ref 8] M K := by
  show q_Ex X d 20 0 [some (.ref 3), some (.int a1), some (.int a2), some (.ref 8)] [] M (q_ri K)
  refine q_iload_n (pc := 0) k20_0 rfl ?_
  refine q_if_lt (pc := 1) 16 k20_1 (by decide) (fun g => ?_) (fun g => ?_)
  · replace h := h.1 g
    refine q_iconst (pc := 16) (v := 0) k20_16 (by decide) ?_
    exact q_zreturn (pc := 17) k20_17 rfl (by decide) ⟨_, rfl, h⟩
  · replace h := h.2 g
    refine q_iload_n (pc := 4) k20_4 rfl ?_
    refine q_aload_n (pc := 5) k20_5 rfl ?_
    refine q_alen (pc := 6) (v := 3) k20_6 rfl rfl ?_
    refine q_icmp_ge (pc := 7) 16 k20_7 (by decide) (fun g => ?_) (fun g => ?_)
    · replace h := h.1 g
      refine q_iconst (pc := 16) (v := 0) k20_16 (by decide) ?_
      exact q_zreturn (pc := 17) k20_17 rfl (by decide) ⟨_, rfl, h⟩
    · replace h := h.2 g
      refine q_aload_n (pc := 10) k20_10 rfl ?_
      refine q_iload_n (pc := 11) k20_11 rfl ?_
      refine q_ialdv (pc := 12) (v := M 8 (Int32.toNatClampNeg a2)) k20_12 rfl h.1 rfl ?_
      replace h := h.2
      refine q_if_lt (pc := 13) 18 k20_13 (by decide) (fun g => ?_) (fun g => ?_)
      · replace h := h.1 g
        refine q_aload_n (pc := 18) k20_18 rfl ?_
        refine q_iload_n (pc := 19) k20_19 rfl ?_
        refine q_aload_n (pc := 20) k20_20 rfl ?_
        refine q_getIv (pc := 21) (v := M 3 2) k20_21 fg20_37 rfl rfl rfl ?_
        refine q_iastv (pc := 24) (k := (Int32.toNatClampNeg a2)) k20_24 rfl h.1 rfl ?_
        replace h := h.2
        refine q_aload_n (pc := 25) k20_25 rfl ?_
        refine q_iload_n (pc := 26) k20_26 rfl ?_
        refine q_iconst (pc := 27) (v := 0) k20_27 (by decide) ?_
        refine q_iload_n (pc := 28) k20_28 rfl ?_
        refine q_invV (pc := 29) (As := [.int a1, .int 0, .int a2]) (st := []) k20_29 lm20_81 ov21 rfl rfl rfl (q_cat rfl) (Nat.le_of_ble_eq_true rfl) hd h ?_
        rintro v M1 ⟨r2, rfl, h⟩
        show q_Ex X d 20 (29 + 3) [some (.ref 3), some (.int a1), some (.int a2), some (.ref 8)] [.int r2] M1 _
        exact q_zreturn (pc := 32) k20_32 rfl h.1 ⟨_, rfl, h.2⟩
      · replace h := h.2 g
        refine q_iconst (pc := 16) (v := 0) k20_16 (by decide) ?_
        exact q_zreturn (pc := 17) k20_17 rfl (by decide) ⟨_, rfl, h⟩
set_option maxRecDepth 20000 in
theorem vc23 {X : Nat × (Nat → Int32)} {d : Nat} {M : q_M} {a1 : Int32} {K : Int32 → q_M → Prop} (h : ((a1 < 0) → (K 0 M)) ∧ ((¬ a1 < 0) → ((((M 11 2) ≤ a1) → (K 0 M)) ∧ ((¬ (M 11 2) ≤ a1) → (K 1 M))))) : q_Ci X d 23 [.ref 11, .int a1] M K := by
  show q_Ex X d 23 0 [some (.ref 11), some (.int a1)] [] M (q_ri K)
  refine q_iload_n (pc := 0) k23_0 rfl ?_
  refine q_if_lt (pc := 1) 16 k23_1 (by decide) (fun g => ?_) (fun g => ?_)
  · replace h := h.1 g
    refine q_iconst (pc := 16) (v := 0) k23_16 (by decide) ?_
    exact q_zreturn (pc := 17) k23_17 rfl (by decide) ⟨_, rfl, h⟩
  · replace h := h.2 g
    refine q_iload_n (pc := 4) k23_4 rfl ?_
    refine q_aload_n (pc := 5) k23_5 rfl ?_
    refine q_getIv (pc := 6) (v := M 11 2) k23_6 fg23_37 rfl rfl rfl ?_
    refine q_icmp_ge (pc := 9) 16 k23_9 (by decide) (fun g => ?_) (fun g => ?_)
    · replace h := h.1 g
      refine q_iconst (pc := 16) (v := 0) k23_16 (by decide) ?_
      exact q_zreturn (pc := 17) k23_17 rfl (by decide) ⟨_, rfl, h⟩
    · replace h := h.2 g
      refine q_iconst (pc := 12) (v := 1) k23_12 (by decide) ?_
      refine q_goto (pc := 13) 17 k23_13 (by decide) ?_
      exact q_zreturn (pc := 17) k23_17 rfl (by decide) ⟨_, rfl, h⟩
set_option maxRecDepth 20000 in
theorem vc24 {X : Nat × (Nat → Int32)} {d : Nat} {M : q_M} {a1 : Int32} {K : Int32 → q_M → Prop} (h : ((a1 < 0) → (K 0 M)) ∧ ((¬ a1 < 0) → ((((M 11 4) ≤ a1) → (K 0 M)) ∧ ((¬ (M 11 4) ≤ a1) → (K 1 M))))) : q_Ci X d 24 [.ref 11, .int a1] M K := by
  show q_Ex X d 24 0 [some (.ref 11), some (.int a1)] [] M (q_ri K)
  refine q_iload_n (pc := 0) k24_0 rfl ?_
  refine q_if_lt (pc := 1) 16 k24_1 (by decide) (fun g => ?_) (fun g => ?_)
  · replace h := h.1 g
    refine q_iconst (pc := 16) (v := 0) k24_16 (by decide) ?_
    exact q_zreturn (pc := 17) k24_17 rfl (by decide) ⟨_, rfl, h⟩
  · replace h := h.2 g
    refine q_iload_n (pc := 4) k24_4 rfl ?_
    refine q_aload_n (pc := 5) k24_5 rfl ?_
    refine q_getIv (pc := 6) (v := M 11 4) k24_6 fg24_43 rfl rfl rfl ?_
    refine q_icmp_ge (pc := 9) 16 k24_9 (by decide) (fun g => ?_) (fun g => ?_)
    · replace h := h.1 g
      refine q_iconst (pc := 16) (v := 0) k24_16 (by decide) ?_
      exact q_zreturn (pc := 17) k24_17 rfl (by decide) ⟨_, rfl, h⟩
    · replace h := h.2 g
      refine q_iconst (pc := 12) (v := 1) k24_12 (by decide) ?_
      refine q_goto (pc := 13) 17 k24_13 (by decide) ?_
      exact q_zreturn (pc := 17) k24_17 rfl (by decide) ⟨_, rfl, h⟩
set_option maxRecDepth 20000 in
theorem vc25 {X : Nat × (Nat → Int32)} {d : Nat} (hd : 0 < d) {M : q_M} {a1 : Int32} {K : Int32 → q_M → Prop} (h : q_Ci X (d - 1) 24 [.ref 11, .int a1] M (fun r2 M1 => ((r2 = 0) → (K (-1) M1)) ∧ ((¬ r2 = 0) → (vp_in a1 3 ∧ (K (M1 15 (Int32.toNatClampNeg a1)) M1))))) : q_Ci X d 25 [.ref 11, .int a1] M K := by
  show q_Ex X d 25 0 [some (.ref 11), some (.int a1)] [] M (q_ri K)
  refine q_aload_n (pc := 0) k25_0 rfl ?_
  refine q_iload_n (pc := 1) k25_1 rfl ?_
  refine q_invV (pc := 2) (As := [.int a1]) (st := []) k25_2 lm25_89 ov24 rfl rfl rfl (q_cat rfl) (Nat.le_of_ble_eq_true rfl) hd h ?_
  rintro v M1 ⟨r2, rfl, h⟩
  show q_Ex X d 25 (2 + 3) [some (.ref 11), some (.int a1)] [.int r2] M1 _
  refine q_if_eq (pc := 5) 17 k25_5 (by decide) (fun g => ?_) (fun g => ?_)
  · replace h := h.1 g
    refine q_iconst (pc := 17) (v := (-1)) k25_17 (by decide) ?_
    exact q_ireturn (pc := 18) k25_18 rfl ⟨_, rfl, h⟩
  · replace h := h.2 g
    refine q_aload_n (pc := 8) k25_8 rfl ?_
    refine q_getR (pc := 9) k25_9 fg25_21 rfl rfl ?_
    refine q_iload_n (pc := 12) k25_12 rfl ?_
    refine q_ialdv (pc := 13) (v := M1 15 (Int32.toNatClampNeg a1)) k25_13 rfl h.1 rfl ?_
    replace h := h.2
    refine q_goto (pc := 14) 18 k25_14 (by decide) ?_
    exact q_ireturn (pc := 18) k25_18 rfl ⟨_, rfl, h⟩
set_option maxRecDepth 20000 in
theorem vc26 {X : Nat × (Nat → Int32)} {d : Nat} (hd : 0 < d) {M : q_M} {a1 : Int32} {K : Int32 → q_M → Prop} (h : q_Ci X (d - 1) 24 [.ref 11, .int a1] M (fun r2 M1 => ((r2 = 0) → (K (-1) M1)) ∧ ((¬ r2 = 0) → (vp_in a1 3 ∧ (K (M1 16 (Int32.toNatClampNeg a1)) M1))))) : q_Ci X d 26 [.ref 11, .int a1] M K := by
  show q_Ex X d 26 0 [some (.ref 11), some (.int a1)] [] M (q_ri K)
  refine q_aload_n (pc := 0) k26_0 rfl ?_
  refine q_iload_n (pc := 1) k26_1 rfl ?_
  refine q_invV (pc := 2) (As := [.int a1]) (st := []) k26_2 lm26_89 ov24 rfl rfl rfl (q_cat rfl) (Nat.le_of_ble_eq_true rfl) hd h ?_
  rintro v M1 ⟨r2, rfl, h⟩
  show q_Ex X d 26 (2 + 3) [some (.ref 11), some (.int a1)] [.int r2] M1 _
  refine q_if_eq (pc := 5) 17 k26_5 (by decide) (fun g => ?_) (fun g => ?_)
  · replace h := h.1 g
    refine q_iconst (pc := 17) (v := (-1)) k26_17 (by decide) ?_
    exact q_ireturn (pc := 18) k26_18 rfl ⟨_, rfl, h⟩
  · replace h := h.2 g
    refine q_aload_n (pc := 8) k26_8 rfl ?_
    refine q_getR (pc := 9) k26_9 fg26_24 rfl rfl ?_
    refine q_iload_n (pc := 12) k26_12 rfl ?_
    refine q_ialdv (pc := 13) (v := M1 16 (Int32.toNatClampNeg a1)) k26_13 rfl h.1 rfl ?_
    replace h := h.2
    refine q_goto (pc := 14) 18 k26_14 (by decide) ?_
    exact q_ireturn (pc := 18) k26_18 rfl ⟨_, rfl, h⟩
set_option maxRecDepth 20000 in
theorem vc27 {X : Nat × (Nat → Int32)} {d : Nat} (hd : 0 < d) {M : q_M} {a1 a2 : Int32} {K : Int32 → q_M → Prop} (h : q_Ci X (d - 1) 23 [.ref 11, .int a1] M (fun r2 M1 => ((r2 = 0) → (K (-1) M1)) ∧ ((¬ r2 = 0) → (((1 ≤ (M1 11 1)) → (((¬ a2 = 1) → (((¬ a2 = 1) → (q_Ci X (d - 1) 23 [.ref 11, .int (a1 + (M1 11 1))] M1 (fun r4 M3 => ((r4 = 0) → (K (-1) M3)) ∧ ((¬ r4 = 0) → (vp_in (a1 + (M1 11 1)) 30 ∧ ((((M3 12 (Int32.toNatClampNeg (a1 + (M1 11 1)))) = 1) → (K (-1) M3)) ∧ ((¬ (M3 12 (Int32.toNatClampNeg (a1 + (M1 11 1)))) = 1) → (K (a1 + (M1 11 1)) M3)))))))) ∧ ((a2 = 1) → (q_Ci X (d - 1) 23 [.ref 11, .int (a1 + 1)] M1 (fun r6 M5 => ((r6 = 0) → (K (-1) M5)) ∧ ((¬ r6 = 0) → (vp_in (a1 + 1) 30 ∧ ((((M5 12 (Int32.toNatClampNeg (a1 + 1))) = 1) → (K (-1) M5)) ∧ ((¬ (M5 12 (Int32.toNatClampNeg (a1 + 1))) = 1) → (K (a1 + 1) M5)))))))))) ∧ ((a2 = 1) → (¬ (M1 11 1) = 0 ∧ (((¬ (a1 - a1 / (M1 11 1) * (M1 11 1)) = ((M1 11 1) - 1)) → (((¬ a2 = 1) → (q_Ci X (d - 1) 23 [.ref 11, .int (a1 + (M1 11 1))] M1 (fun r8 M7 => ((r8 = 0) → (K (-1) M7)) ∧ ((¬ r8 = 0) → (vp_in (a1 + (M1 11 1)) 30 ∧ ((((M7 12 (Int32.toNatClampNeg (a1 + (M1 11 1)))) = 1) → (K (-1) M7)) ∧ ((¬ (M7 12 (Int32.toNatClampNeg (a1 + (M1 11 1)))) = 1) → (K (a1 + (M1 11 1)) M7)))))))) ∧ ((a2 = 1) → (q_Ci X (d - 1) 23 [.ref 11, .int (a1 + 1)] M1 (fun r10 M9 => ((r10 = 0) → (K (-1) M9)) ∧ ((¬ r10 = 0) → (vp_in (a1 + 1) 30 ∧ ((((M9 12 (Int32.toNatClampNeg (a1 + 1))) = 1) → (K (-1) M9)) ∧ ((¬ (M9 12 (Int32.toNatClampNeg (a1 + 1))) = 1) → (K (a1 + 1) M9)))))))))) ∧ (((a1 - a1 / (M1 11 1) * (M1 11 1)) = ((M1 11 1) - 1)) → (K (-1) M1))))))) ∧ ((¬ 1 ≤ (M1 11 1)) → (K (-1) M1)))))) : q_Ci X d 27 [.ref 11, .int a1, .int a2] M K := by
  show q_Ex X d 27 0 [some (.ref 11), some (.int a1), some (.int a2), none] [] M (q_ri K)
  refine q_aload_n (pc := 0) k27_0 rfl ?_
  refine q_iload_n (pc := 1) k27_1 rfl ?_
  refine q_invV (pc := 2) (As := [.int a1]) (st := []) k27_2 lm27_92 ov23 rfl rfl rfl (q_cat rfl) (Nat.le_of_ble_eq_true rfl) hd h ?_
  rintro v M1 ⟨r2, rfl, h⟩
  show q_Ex X d 27 (2 + 3) [some (.ref 11), some (.int a1), some (.int a2), none] [.int r2] M1 _
  refine q_if_eq (pc := 5) 16 k27_5 (by decide) (fun g => ?_) (fun g => ?_)
  · replace h := h.1 g
    refine q_iconst (pc := 16) (v := (-1)) k27_16 (by decide) ?_
    exact q_ireturn (pc := 17) k27_17 rfl ⟨_, rfl, h⟩
  · replace h := h.2 g
    refine q_aload_n (pc := 8) k27_8 rfl ?_
    refine q_getIv (pc := 9) (v := M1 11 1) k27_9 fg27_34 rfl rfl rfl ?_
    refine q_iconst (pc := 12) (v := 1) k27_12 (by decide) ?_
    refine q_icmp_ge (pc := 13) 18 k27_13 (by decide) (fun g => ?_) (fun g => ?_)
    · replace h := h.1 g
      refine q_iload_n (pc := 18) k27_18 rfl ?_
      refine q_iconst (pc := 19) (v := 1) k27_19 (by decide) ?_
      refine q_icmp_ne (pc := 20) 40 k27_20 (by decide) (fun g => ?_) (fun g => ?_)
      · replace h := h.1 g
        refine q_iload_n (pc := 40) k27_40 rfl ?_
        refine q_iconst (pc := 41) (v := 1) k27_41 (by decide) ?_
        refine q_icmp_ne (pc := 42) 51 k27_42 (by decide) (fun g => ?_) (fun g => ?_)
        · replace h := h.1 g
          refine q_iload_n (pc := 51) k27_51 rfl ?_
          refine q_aload_n (pc := 52) k27_52 rfl ?_
          refine q_getIv (pc := 53) (v := M1 11 1) k27_53 fg27_34 rfl rfl rfl ?_
          refine q_iadd (pc := 56) k27_56 ?_
          refine q_istore_n (pc := 57) [some (.ref 11), some (.int a1), some (.int a2), some (.int (a1 + (M1 11 1)))] k27_57 rfl (by decide) rfl ?_
          refine q_aload_n (pc := 58) k27_58 rfl ?_
          refine q_iload_n (pc := 59) k27_59 rfl ?_
          refine q_invV (pc := 60) (As := [.int (a1 + (M1 11 1))]) (st := []) k27_60 lm27_92 ov23 rfl rfl rfl (q_cat rfl) (Nat.le_of_ble_eq_true rfl) hd h ?_
          rintro v M3 ⟨r4, rfl, h⟩
          show q_Ex X d 27 (60 + 3) [some (.ref 11), some (.int a1), some (.int a2), some (.int (a1 + (M1 11 1)))] [.int r4] M3 _
          refine q_if_eq (pc := 63) 80 k27_63 (by decide) (fun g => ?_) (fun g => ?_)
          · replace h := h.1 g
            refine q_iconst (pc := 80) (v := (-1)) k27_80 (by decide) ?_
            exact q_ireturn (pc := 81) k27_81 rfl ⟨_, rfl, h⟩
          · replace h := h.2 g
            refine q_aload_n (pc := 66) k27_66 rfl ?_
            refine q_getR (pc := 67) k27_67 fg27_9 rfl rfl ?_
            refine q_iload_n (pc := 70) k27_70 rfl ?_
            refine q_ialdv (pc := 71) (v := M3 12 (Int32.toNatClampNeg (a1 + (M1 11 1)))) k27_71 rfl h.1 rfl ?_
            replace h := h.2
            refine q_iconst (pc := 72) (v := 1) k27_72 (by decide) ?_
            refine q_icmp_eq (pc := 73) 80 k27_73 (by decide) (fun g => ?_) (fun g => ?_)
            · replace h := h.1 g
              refine q_iconst (pc := 80) (v := (-1)) k27_80 (by decide) ?_
              exact q_ireturn (pc := 81) k27_81 rfl ⟨_, rfl, h⟩
            · replace h := h.2 g
              refine q_iload_n (pc := 76) k27_76 rfl ?_
              refine q_goto (pc := 77) 81 k27_77 (by decide) ?_
              exact q_ireturn (pc := 81) k27_81 rfl ⟨_, rfl, h⟩
        · replace h := h.2 g
          refine q_iload_n (pc := 45) k27_45 rfl ?_
          refine q_iconst (pc := 46) (v := 1) k27_46 (by decide) ?_
          refine q_iadd (pc := 47) k27_47 ?_
          refine q_goto (pc := 48) 57 k27_48 (by decide) ?_
          refine q_istore_n (pc := 57) [some (.ref 11), some (.int a1), some (.int a2), some (.int (a1 + 1))] k27_57 rfl (by decide) rfl ?_
          refine q_aload_n (pc := 58) k27_58 rfl ?_
          refine q_iload_n (pc := 59) k27_59 rfl ?_
          refine q_invV (pc := 60) (As := [.int (a1 + 1)]) (st := []) k27_60 lm27_92 ov23 rfl rfl rfl (q_cat rfl) (Nat.le_of_ble_eq_true rfl) hd h ?_
          rintro v M5 ⟨r6, rfl, h⟩
          show q_Ex X d 27 (60 + 3) [some (.ref 11), some (.int a1), some (.int a2), some (.int (a1 + 1))] [.int r6] M5 _
          refine q_if_eq (pc := 63) 80 k27_63 (by decide) (fun g => ?_) (fun g => ?_)
          · replace h := h.1 g
            refine q_iconst (pc := 80) (v := (-1)) k27_80 (by decide) ?_
            exact q_ireturn (pc := 81) k27_81 rfl ⟨_, rfl, h⟩
          · replace h := h.2 g
            refine q_aload_n (pc := 66) k27_66 rfl ?_
            refine q_getR (pc := 67) k27_67 fg27_9 rfl rfl ?_
            refine q_iload_n (pc := 70) k27_70 rfl ?_
            refine q_ialdv (pc := 71) (v := M5 12 (Int32.toNatClampNeg (a1 + 1))) k27_71 rfl h.1 rfl ?_
            replace h := h.2
            refine q_iconst (pc := 72) (v := 1) k27_72 (by decide) ?_
            refine q_icmp_eq (pc := 73) 80 k27_73 (by decide) (fun g => ?_) (fun g => ?_)
            · replace h := h.1 g
              refine q_iconst (pc := 80) (v := (-1)) k27_80 (by decide) ?_
              exact q_ireturn (pc := 81) k27_81 rfl ⟨_, rfl, h⟩
            · replace h := h.2 g
              refine q_iload_n (pc := 76) k27_76 rfl ?_
              refine q_goto (pc := 77) 81 k27_77 (by decide) ?_
              exact q_ireturn (pc := 81) k27_81 rfl ⟨_, rfl, h⟩
      · replace h := h.2 g
        refine q_iload_n (pc := 23) k27_23 rfl ?_
        refine q_aload_n (pc := 24) k27_24 rfl ?_
        refine q_getIv (pc := 25) (v := M1 11 1) k27_25 fg27_34 rfl rfl rfl ?_
        refine q_irem (pc := 28) k27_28 h.1 ?_
        replace h := h.2
        refine q_aload_n (pc := 29) k27_29 rfl ?_
        refine q_getIv (pc := 30) (v := M1 11 1) k27_30 fg27_34 rfl rfl rfl ?_
        refine q_iconst (pc := 33) (v := 1) k27_33 (by decide) ?_
        refine q_isub (pc := 34) k27_34 ?_
        refine q_icmp_ne (pc := 35) 40 k27_35 (by decide) (fun g => ?_) (fun g => ?_)
        · replace h := h.1 g
          refine q_iload_n (pc := 40) k27_40 rfl ?_
          refine q_iconst (pc := 41) (v := 1) k27_41 (by decide) ?_
          refine q_icmp_ne (pc := 42) 51 k27_42 (by decide) (fun g => ?_) (fun g => ?_)
          · replace h := h.1 g
            refine q_iload_n (pc := 51) k27_51 rfl ?_
            refine q_aload_n (pc := 52) k27_52 rfl ?_
            refine q_getIv (pc := 53) (v := M1 11 1) k27_53 fg27_34 rfl rfl rfl ?_
            refine q_iadd (pc := 56) k27_56 ?_
            refine q_istore_n (pc := 57) [some (.ref 11), some (.int a1), some (.int a2), some (.int (a1 + (M1 11 1)))] k27_57 rfl (by decide) rfl ?_
            refine q_aload_n (pc := 58) k27_58 rfl ?_
            refine q_iload_n (pc := 59) k27_59 rfl ?_
            refine q_invV (pc := 60) (As := [.int (a1 + (M1 11 1))]) (st := []) k27_60 lm27_92 ov23 rfl rfl rfl (q_cat rfl) (Nat.le_of_ble_eq_true rfl) hd h ?_
            rintro v M7 ⟨r8, rfl, h⟩
            show q_Ex X d 27 (60 + 3) [some (.ref 11), some (.int a1), some (.int a2), some (.int (a1 + (M1 11 1)))] [.int r8] M7 _
            refine q_if_eq (pc := 63) 80 k27_63 (by decide) (fun g => ?_) (fun g => ?_)
            · replace h := h.1 g
              refine q_iconst (pc := 80) (v := (-1)) k27_80 (by decide) ?_
              exact q_ireturn (pc := 81) k27_81 rfl ⟨_, rfl, h⟩
            · replace h := h.2 g
              refine q_aload_n (pc := 66) k27_66 rfl ?_
              refine q_getR (pc := 67) k27_67 fg27_9 rfl rfl ?_
              refine q_iload_n (pc := 70) k27_70 rfl ?_
              refine q_ialdv (pc := 71) (v := M7 12 (Int32.toNatClampNeg (a1 + (M1 11 1)))) k27_71 rfl h.1 rfl ?_
              replace h := h.2
              refine q_iconst (pc := 72) (v := 1) k27_72 (by decide) ?_
              refine q_icmp_eq (pc := 73) 80 k27_73 (by decide) (fun g => ?_) (fun g => ?_)
              · replace h := h.1 g
                refine q_iconst (pc := 80) (v := (-1)) k27_80 (by decide) ?_
                exact q_ireturn (pc := 81) k27_81 rfl ⟨_, rfl, h⟩
              · replace h := h.2 g
                refine q_iload_n (pc := 76) k27_76 rfl ?_
                refine q_goto (pc := 77) 81 k27_77 (by decide) ?_
                exact q_ireturn (pc := 81) k27_81 rfl ⟨_, rfl, h⟩
          · replace h := h.2 g
            refine q_iload_n (pc := 45) k27_45 rfl ?_
            refine q_iconst (pc := 46) (v := 1) k27_46 (by decide) ?_
            refine q_iadd (pc := 47) k27_47 ?_
            refine q_goto (pc := 48) 57 k27_48 (by decide) ?_
            refine q_istore_n (pc := 57) [some (.ref 11), some (.int a1), some (.int a2), some (.int (a1 + 1))] k27_57 rfl (by decide) rfl ?_
            refine q_aload_n (pc := 58) k27_58 rfl ?_
            refine q_iload_n (pc := 59) k27_59 rfl ?_
            refine q_invV (pc := 60) (As := [.int (a1 + 1)]) (st := []) k27_60 lm27_92 ov23 rfl rfl rfl (q_cat rfl) (Nat.le_of_ble_eq_true rfl) hd h ?_
            rintro v M9 ⟨r10, rfl, h⟩
            show q_Ex X d 27 (60 + 3) [some (.ref 11), some (.int a1), some (.int a2), some (.int (a1 + 1))] [.int r10] M9 _
            refine q_if_eq (pc := 63) 80 k27_63 (by decide) (fun g => ?_) (fun g => ?_)
            · replace h := h.1 g
              refine q_iconst (pc := 80) (v := (-1)) k27_80 (by decide) ?_
              exact q_ireturn (pc := 81) k27_81 rfl ⟨_, rfl, h⟩
            · replace h := h.2 g
              refine q_aload_n (pc := 66) k27_66 rfl ?_
              refine q_getR (pc := 67) k27_67 fg27_9 rfl rfl ?_
              refine q_iload_n (pc := 70) k27_70 rfl ?_
              refine q_ialdv (pc := 71) (v := M9 12 (Int32.toNatClampNeg (a1 + 1))) k27_71 rfl h.1 rfl ?_
              replace h := h.2
              refine q_iconst (pc := 72) (v := 1) k27_72 (by decide) ?_
              refine q_icmp_eq (pc := 73) 80 k27_73 (by decide) (fun g => ?_) (fun g => ?_)
              · replace h := h.1 g
                refine q_iconst (pc := 80) (v := (-1)) k27_80 (by decide) ?_
                exact q_ireturn (pc := 81) k27_81 rfl ⟨_, rfl, h⟩
              · replace h := h.2 g
                refine q_iload_n (pc := 76) k27_76 rfl ?_
                refine q_goto (pc := 77) 81 k27_77 (by decide) ?_
                exact q_ireturn (pc := 81) k27_81 rfl ⟨_, rfl, h⟩
        · replace h := h.2 g
          refine q_iconst (pc := 38) (v := (-1)) k27_38 (by decide) ?_
          exact q_ireturn (pc := 39) k27_39 rfl ⟨_, rfl, h⟩
    · replace h := h.2 g
      refine q_iconst (pc := 16) (v := (-1)) k27_16 (by decide) ?_
      exact q_ireturn (pc := 17) k27_17 rfl ⟨_, rfl, h⟩
set_option maxRecDepth 20000 in
theorem vc28 {X : Nat × (Nat → Int32)} {d : Nat} (hd : 0 < d) {M : q_M} {a1 a2 : Int32} {K : Int32 → q_M → Prop} (h : q_Ci X (d - 1) 25 [.ref 11, .int a1] M (fun r2 M1 => q_Ci X (d - 1) 26 [.ref 11, .int a2] M1 (fun r4 M3 => q_Ci X (d - 1) 23 [.ref 11, .int r2] M3 (fun r6 M5 => ((r6 = 0) → (K 0 M5)) ∧ ((¬ r6 = 0) → (q_Ci X (d - 1) 23 [.ref 11, .int r4] M5 (fun r8 M7 => ((¬ r8 = 0) → (q_Cv X (d - 1) 158 [.ref 17, .int 0] M7 (fun M9 => vp_in r2 30 ∧ (q_Ex X d 28 50 [some (.ref 11), none, none, none, some (.int r4), some (.int r2), none, none] [] (q_set M9 17 (Int32.toNatClampNeg r2) 1) (q_ri K))))) ∧ ((r8 = 0) → (K 0 M7))))))))) : q_Ci X d 28 [.ref 11, .int a1, .int a2] M K := by
  show q_Ex X d 28 0 [some (.ref 11), some (.int a1), some (.int a2), none, none, none, none, none] [] M (q_ri K)
  refine q_aload_n (pc := 0) k28_0 rfl ?_
  refine q_iload_n (pc := 1) k28_1 rfl ?_
  refine q_invV (pc := 2) (As := [.int a1]) (st := []) k28_2 lm28_95 ov25 rfl rfl rfl (q_cat rfl) (Nat.le_of_ble_eq_true rfl) hd h ?_
  rintro v M1 ⟨r2, rfl, h⟩
  show q_Ex X d 28 (2 + 3) [some (.ref 11), some (.int a1), some (.int a2), none, none, none, none, none] [.int r2] M1 _
  refine q_istore_n (pc := 5) [some (.ref 11), some (.int a1), some (.int a2), some (.int r2), none, none, none, none] k28_5 rfl (by decide) rfl ?_
  refine q_aload_n (pc := 6) k28_6 rfl ?_
  refine q_iload_n (pc := 7) k28_7 rfl ?_
  refine q_invV (pc := 8) (As := [.int a2]) (st := []) k28_8 lm28_99 ov26 rfl rfl rfl (q_cat rfl) (Nat.le_of_ble_eq_true rfl) hd h ?_
  rintro v M3 ⟨r4, rfl, h⟩
  show q_Ex X d 28 (8 + 3) [some (.ref 11), some (.int a1), some (.int a2), some (.int r2), none, none, none, none] [.int r4] M3 _
  refine q_istore (pc := 11) [some (.ref 11), some (.int a1), some (.int a2), some (.int r2), some (.int r4), none, none, none] k28_11 rfl (by decide) rfl ?_
  refine q_aload_n (pc := 13) k28_13 rfl ?_
  refine q_iload_n (pc := 14) k28_14 rfl ?_
  refine q_invV (pc := 15) (As := [.int r2]) (st := []) k28_15 lm28_92 ov23 rfl rfl rfl (q_cat rfl) (Nat.le_of_ble_eq_true rfl) hd h ?_
  rintro v M5 ⟨r6, rfl, h⟩
  show q_Ex X d 28 (15 + 3) [some (.ref 11), some (.int a1), some (.int a2), some (.int r2), some (.int r4), none, none, none] [.int r6] M5 _
  refine q_if_eq (pc := 18) 30 k28_18 (by decide) (fun g => ?_) (fun g => ?_)
  · replace h := h.1 g
    refine q_iconst (pc := 30) (v := 0) k28_30 (by decide) ?_
    exact q_ireturn (pc := 31) k28_31 rfl ⟨_, rfl, h⟩
  · replace h := h.2 g
    refine q_aload_n (pc := 21) k28_21 rfl ?_
    refine q_iload (pc := 22) k28_22 rfl ?_
    refine q_invV (pc := 24) (As := [.int r4]) (st := []) k28_24 lm28_92 ov23 rfl rfl rfl (q_cat rfl) (Nat.le_of_ble_eq_true rfl) hd h ?_
    rintro v M7 ⟨r8, rfl, h⟩
    show q_Ex X d 28 (24 + 3) [some (.ref 11), some (.int a1), some (.int a2), some (.int r2), some (.int r4), none, none, none] [.int r8] M7 _
    refine q_if_ne (pc := 27) 32 k28_27 (by decide) (fun g => ?_) (fun g => ?_)
    · replace h := h.1 g
      refine q_aload_n (pc := 32) k28_32 rfl ?_
      refine q_getR (pc := 33) k28_33 fg28_27 rfl rfl ?_
      refine q_iconst (pc := 36) (v := 0) k28_36 (by decide) ?_
      refine q_invS (pc := 37) (As := [.ref 17, .int 0]) (st := []) k28_37 lm28_75 os158 rfl rfl (q_cat rfl) (Nat.le_of_ble_eq_true rfl) hd h ?_
      rintro v M9 ⟨rfl, h⟩
      show q_Ex X d 28 (37 + 3) [some (.ref 11), some (.int a1), some (.int a2), some (.int r2), some (.int r4), none, none, none] [] M9 _
      refine q_aload_n (pc := 40) k28_40 rfl ?_
      refine q_getR (pc := 41) k28_41 fg28_27 rfl rfl ?_
      refine q_iload_n (pc := 44) k28_44 rfl ?_
      refine q_iconst (pc := 45) (v := 1) k28_45 (by decide) ?_
      refine q_iastv (pc := 46) (k := (Int32.toNatClampNeg r2)) k28_46 rfl h.1 rfl ?_
      replace h := h.2
      refine q_iload_n (pc := 47) k28_47 rfl ?_
      refine q_istore (pc := 48) [some (.ref 11), some (.int a1), some (.int a2), some (.int r2), some (.int r4), some (.int r2), none, none] k28_48 rfl (by decide) rfl ?_
      exact q_forget [some (.ref 11), none, none, none, some (.int r4), some (.int r2), none, none] (q_subOk (And.intro rfl (And.intro rfl (And.intro rfl (trivial))))) h
    · replace h := h.2 g
      refine q_iconst (pc := 30) (v := 0) k28_30 (by decide) ?_
      exact q_ireturn (pc := 31) k28_31 rfl ⟨_, rfl, h⟩
set_option maxRecDepth 20000 in
theorem vc28_p50 {X : Nat × (Nat → Int32)} {d : Nat} {M : q_M} {a4 a5 : Int32} {K : Int32 → q_M → Prop} (h : ((a4 ≤ a5) → (vp_in a4 30 ∧ (K (M 17 (Int32.toNatClampNeg a4)) M))) ∧ ((¬ a4 ≤ a5) → (q_Ex X d 28 60 [some (.ref 11), none, none, none, some (.int a4), some (.int a5), some (.int 0), none] [] M (q_ri K)))) : q_Ex X d 28 50 [some (.ref 11), none, none, none, some (.int a4), some (.int a5), none, none] [] M (q_ri K) := by
  refine q_iload (pc := 50) k28_50 rfl ?_
  refine q_iload (pc := 52) k28_52 rfl ?_
  refine q_icmp_ge (pc := 54) 110 k28_54 (by decide) (fun g => ?_) (fun g => ?_)
  · replace h := h.1 g
    refine q_aload_n (pc := 110) k28_110 rfl ?_
    refine q_getR (pc := 111) k28_111 fg28_27 rfl rfl ?_
    refine q_iload (pc := 114) k28_114 rfl ?_
    refine q_ialdv (pc := 116) (v := M 17 (Int32.toNatClampNeg a4)) k28_116 rfl h.1 rfl ?_
    replace h := h.2
    exact q_ireturn (pc := 117) k28_117 rfl ⟨_, rfl, h⟩
  · replace h := h.2 g
    refine q_iconst (pc := 57) (v := 0) k28_57 (by decide) ?_
    refine q_istore (pc := 58) [some (.ref 11), none, none, none, some (.int a4), some (.int a5), some (.int 0), none] k28_58 rfl (by decide) rfl ?_
    exact h
set_option maxRecDepth 20000 in
theorem vc28_p60 {X : Nat × (Nat → Int32)} {d : Nat} (hd : 0 < d) {M : q_M} {a4 a5 a6 : Int32} {K : Int32 → q_M → Prop} (h : ((1 < a6) → (q_Ex X d 28 50 [some (.ref 11), none, none, none, some (.int a4), some (.int (a5 + 1)), none, none] [] M (q_ri K))) ∧ ((¬ 1 < a6) → (q_Ci X (d - 1) 27 [.ref 11, .int a5, .int a6] M (fun r2 M1 => ((r2 < 0) → (q_Ex X d 28 60 [some (.ref 11), none, none, none, some (.int a4), some (.int a5), some (.int (a6 + 1)), none] [] M1 (q_ri K))) ∧ ((¬ r2 < 0) → (vp_in r2 30 ∧ (vp_in a5 30 ∧ (vp_in r2 30 ∧ (q_Ex X d 28 60 [some (.ref 11), none, none, none, some (.int a4), some (.int a5), some (.int (a6 + 1)), none] [] (q_set M1 17 (Int32.toNatClampNeg r2) ((M1 17 (Int32.toNatClampNeg r2)) + (M1 17 (Int32.toNatClampNeg a5)))) (q_ri K)))))))))) : q_Ex X d 28 60 [some (.ref 11), none, none, none, some (.int a4), some (.int a5), some (.int a6), none] [] M (q_ri K) := by
  refine q_iload (pc := 60) k28_60 rfl ?_
  refine q_iconst (pc := 62) (v := 1) k28_62 (by decide) ?_
  refine q_icmp_gt (pc := 63) 104 k28_63 (by decide) (fun g => ?_) (fun g => ?_)
  · replace h := h.1 g
    refine q_iinc (pc := 104) (v := a5 + 1) [some (.ref 11), none, none, none, some (.int a4), some (.int (a5 + 1)), some (.int a6), none] k28_104 rfl rfl rfl (by decide) rfl ?_
    refine q_goto (pc := 107) 50 k28_107 (by decide) ?_
    exact q_forget [some (.ref 11), none, none, none, some (.int a4), some (.int (a5 + 1)), none, none] (q_subOk (And.intro rfl (And.intro rfl (And.intro rfl (trivial))))) h
  · replace h := h.2 g
    refine q_aload_n (pc := 66) k28_66 rfl ?_
    refine q_iload (pc := 67) k28_67 rfl ?_
    refine q_iload (pc := 69) k28_69 rfl ?_
    refine q_invV (pc := 71) (As := [.int a5, .int a6]) (st := []) k28_71 lm28_102 ov27 rfl rfl rfl (q_cat rfl) (Nat.le_of_ble_eq_true rfl) hd h ?_
    rintro v M1 ⟨r2, rfl, h⟩
    show q_Ex X d 28 (71 + 3) [some (.ref 11), none, none, none, some (.int a4), some (.int a5), some (.int a6), none] [.int r2] M1 _
    refine q_istore (pc := 74) [some (.ref 11), none, none, none, some (.int a4), some (.int a5), some (.int a6), some (.int r2)] k28_74 rfl (by decide) rfl ?_
    refine q_iload (pc := 76) k28_76 rfl ?_
    refine q_if_lt (pc := 78) 98 k28_78 (by decide) (fun g => ?_) (fun g => ?_)
    · replace h := h.1 g
      refine q_iinc (pc := 98) (v := a6 + 1) [some (.ref 11), none, none, none, some (.int a4), some (.int a5), some (.int (a6 + 1)), some (.int r2)] k28_98 rfl rfl rfl (by decide) rfl ?_
      refine q_goto (pc := 101) 60 k28_101 (by decide) ?_
      exact q_forget [some (.ref 11), none, none, none, some (.int a4), some (.int a5), some (.int (a6 + 1)), none] (q_subOk (And.intro rfl (And.intro rfl (And.intro rfl (And.intro rfl (trivial)))))) h
    · replace h := h.2 g
      refine q_aload_n (pc := 81) k28_81 rfl ?_
      refine q_getR (pc := 82) k28_82 fg28_27 rfl rfl ?_
      refine q_iload (pc := 85) k28_85 rfl ?_
      refine q_dup2 (pc := 87) k28_87 rfl rfl ?_
      refine q_ialdv (pc := 88) (v := M1 17 (Int32.toNatClampNeg r2)) k28_88 rfl h.1 rfl ?_
      replace h := h.2
      refine q_aload_n (pc := 89) k28_89 rfl ?_
      refine q_getR (pc := 90) k28_90 fg28_27 rfl rfl ?_
      refine q_iload (pc := 93) k28_93 rfl ?_
      refine q_ialdv (pc := 95) (v := M1 17 (Int32.toNatClampNeg a5)) k28_95 rfl h.1 rfl ?_
      replace h := h.2
      refine q_iadd (pc := 96) k28_96 ?_
      refine q_iastv (pc := 97) (k := (Int32.toNatClampNeg r2)) k28_97 rfl h.1 rfl ?_
      replace h := h.2
      refine q_iinc (pc := 98) (v := a6 + 1) [some (.ref 11), none, none, none, some (.int a4), some (.int a5), some (.int (a6 + 1)), some (.int r2)] k28_98 rfl rfl rfl (by decide) rfl ?_
      refine q_goto (pc := 101) 60 k28_101 (by decide) ?_
      exact q_forget [some (.ref 11), none, none, none, some (.int a4), some (.int a5), some (.int (a6 + 1)), none] (q_subOk (And.intro rfl (And.intro rfl (And.intro rfl (And.intro rfl (trivial)))))) h
set_option maxRecDepth 20000 in
theorem vc29 {X : Nat × (Nat → Int32)} {d : Nat} (hd : 0 < d) {M : q_M} {a1 a2 a3 : Int32} {K : Int32 → q_M → Prop} (h : q_Ci X (d - 1) 155 [.int a1] M (fun r2 M1 => ((a3 < (r2 - 1)) → (q_Ci X (d - 1) 25 [.ref 11, .int a2] M1 (fun r4 M3 => q_Ex X d 29 23 [some (.ref 11), some (.int a1), none, some (.int a3), some (.int r4), some (.int 0)] [] M3 (q_ri K)))) ∧ ((¬ a3 < (r2 - 1)) → (K (-9) M1)))) : q_Ci X d 29 [.ref 11, .int a1, .int a2, .int a3] M K := by
  show q_Ex X d 29 0 [some (.ref 11), some (.int a1), some (.int a2), some (.int a3), none, none] [] M (q_ri K)
  refine q_iload_n (pc := 0) k29_0 rfl ?_
  refine q_iload_n (pc := 1) k29_1 rfl ?_
  refine q_invS (pc := 2) (As := [.int a1]) (st := [.int a3]) k29_2 lm29_105 os155 rfl rfl (q_cat rfl) (Nat.le_of_ble_eq_true rfl) hd h ?_
  rintro v M1 ⟨r2, rfl, h⟩
  show q_Ex X d 29 (2 + 3) [some (.ref 11), some (.int a1), some (.int a2), some (.int a3), none, none] [.int r2, .int a3] M1 _
  refine q_iconst (pc := 5) (v := 1) k29_5 (by decide) ?_
  refine q_isub (pc := 6) k29_6 ?_
  refine q_icmp_lt (pc := 7) 13 k29_7 (by decide) (fun g => ?_) (fun g => ?_)
  · replace h := h.1 g
    refine q_aload_n (pc := 13) k29_13 rfl ?_
    refine q_iload_n (pc := 14) k29_14 rfl ?_
    refine q_invV (pc := 15) (As := [.int a2]) (st := []) k29_15 lm29_95 ov25 rfl rfl rfl (q_cat rfl) (Nat.le_of_ble_eq_true rfl) hd h ?_
    rintro v M3 ⟨r4, rfl, h⟩
    show q_Ex X d 29 (15 + 3) [some (.ref 11), some (.int a1), some (.int a2), some (.int a3), none, none] [.int r4] M3 _
    refine q_istore (pc := 18) [some (.ref 11), some (.int a1), some (.int a2), some (.int a3), some (.int r4), none] k29_18 rfl (by decide) rfl ?_
    refine q_iconst (pc := 20) (v := 0) k29_20 (by decide) ?_
    refine q_istore (pc := 21) [some (.ref 11), some (.int a1), some (.int a2), some (.int a3), some (.int r4), some (.int 0)] k29_21 rfl (by decide) rfl ?_
    exact q_forget [some (.ref 11), some (.int a1), none, some (.int a3), some (.int r4), some (.int 0)] (q_subOk (And.intro rfl (And.intro rfl (And.intro rfl (And.intro rfl (And.intro rfl (trivial))))))) h
  · replace h := h.2 g
    refine q_bipush (pc := 10) (v := (-9)) k29_10 (by decide) ?_
    exact q_ireturn (pc := 12) k29_12 rfl ⟨_, rfl, h⟩
set_option maxRecDepth 20000 in
theorem vc29_p23 {X : Nat × (Nat → Int32)} {d : Nat} (hd : 0 < d) {M : q_M} {a1 a3 a4 a5 : Int32} {K : Int32 → q_M → Prop} (h : ((a3 ≤ a5) → (q_Ci X (d - 1) 90 [.int a1, .int (a4 + (M 11 1))] M (fun r2 M1 => ((r2 = 0) → (K 1 M1)) ∧ ((¬ r2 = 0) → (K 0 M1))))) ∧ ((¬ a3 ≤ a5) → (q_Ci X (d - 1) 90 [.int a1, .int (a4 + (M 11 1))] M (fun r4 M3 => ((r4 = 0) → (q_Ex X d 29 23 [some (.ref 11), some (.int a1), none, some (.int a3), some (.int (a4 + 1)), some (.int (a5 + 1))] [] M3 (q_ri K))) ∧ ((¬ r4 = 0) → (q_Ex X d 29 23 [some (.ref 11), some (.int a1), none, some (.int a3), some (.int (a4 + (M3 11 1))), some (.int (a5 + 1))] [] M3 (q_ri K))))))) : q_Ex X d 29 23 [some (.ref 11), some (.int a1), none, some (.int a3), some (.int a4), some (.int a5)] [] M (q_ri K) := by
  refine q_iload (pc := 23) k29_23 rfl ?_
  refine q_iload_n (pc := 25) k29_25 rfl ?_
  refine q_icmp_ge (pc := 26) 65 k29_26 (by decide) (fun g => ?_) (fun g => ?_)
  · replace h := h.1 g
    refine q_iload_n (pc := 65) k29_65 rfl ?_
    refine q_iload (pc := 66) k29_66 rfl ?_
    refine q_aload_n (pc := 68) k29_68 rfl ?_
    refine q_getIv (pc := 69) (v := M 11 1) k29_69 fg29_34 rfl rfl rfl ?_
    refine q_iadd (pc := 72) k29_72 ?_
    refine q_invSN (pc := 73) (As := [.int a1, .int (a4 + (M 11 1))]) (st := []) k29_73 lm29_110 os90 rfl rfl (q_cat rfl) (Nat.le_of_ble_eq_true rfl) hd h ?_
    rintro v M1 ⟨r2, rfl, h⟩
    show q_Ex X d 29 (73 + 3) [some (.ref 11), some (.int a1), none, some (.int a3), some (.int a4), some (.int a5)] [.int r2] M1 _
    refine q_if_eq (pc := 76) 83 k29_76 (by decide) (fun g => ?_) (fun g => ?_)
    · replace h := h.1 g
      refine q_iconst (pc := 83) (v := 1) k29_83 (by decide) ?_
      exact q_ireturn (pc := 84) k29_84 rfl ⟨_, rfl, h⟩
    · replace h := h.2 g
      refine q_iconst (pc := 79) (v := 0) k29_79 (by decide) ?_
      refine q_goto (pc := 80) 84 k29_80 (by decide) ?_
      exact q_ireturn (pc := 84) k29_84 rfl ⟨_, rfl, h⟩
  · replace h := h.2 g
    refine q_iload_n (pc := 29) k29_29 rfl ?_
    refine q_iload (pc := 30) k29_30 rfl ?_
    refine q_aload_n (pc := 32) k29_32 rfl ?_
    refine q_getIv (pc := 33) (v := M 11 1) k29_33 fg29_34 rfl rfl rfl ?_
    refine q_iadd (pc := 36) k29_36 ?_
    refine q_invSN (pc := 37) (As := [.int a1, .int (a4 + (M 11 1))]) (st := []) k29_37 lm29_110 os90 rfl rfl (q_cat rfl) (Nat.le_of_ble_eq_true rfl) hd h ?_
    rintro v M3 ⟨r4, rfl, h⟩
    show q_Ex X d 29 (37 + 3) [some (.ref 11), some (.int a1), none, some (.int a3), some (.int a4), some (.int a5)] [.int r4] M3 _
    refine q_if_eq (pc := 40) 53 k29_40 (by decide) (fun g => ?_) (fun g => ?_)
    · replace h := h.1 g
      refine q_iload (pc := 53) k29_53 rfl ?_
      refine q_iconst (pc := 55) (v := 1) k29_55 (by decide) ?_
      refine q_iadd (pc := 56) k29_56 ?_
      refine q_istore (pc := 57) [some (.ref 11), some (.int a1), none, some (.int a3), some (.int (a4 + 1)), some (.int a5)] k29_57 rfl (by decide) rfl ?_
      refine q_iinc (pc := 59) (v := a5 + 1) [some (.ref 11), some (.int a1), none, some (.int a3), some (.int (a4 + 1)), some (.int (a5 + 1))] k29_59 rfl rfl rfl (by decide) rfl ?_
      refine q_goto (pc := 62) 23 k29_62 (by decide) ?_
      exact h
    · replace h := h.2 g
      refine q_iload (pc := 43) k29_43 rfl ?_
      refine q_aload_n (pc := 45) k29_45 rfl ?_
      refine q_getIv (pc := 46) (v := M3 11 1) k29_46 fg29_34 rfl rfl rfl ?_
      refine q_iadd (pc := 49) k29_49 ?_
      refine q_goto (pc := 50) 57 k29_50 (by decide) ?_
      refine q_istore (pc := 57) [some (.ref 11), some (.int a1), none, some (.int a3), some (.int (a4 + (M3 11 1))), some (.int a5)] k29_57 rfl (by decide) rfl ?_
      refine q_iinc (pc := 59) (v := a5 + 1) [some (.ref 11), some (.int a1), none, some (.int a3), some (.int (a4 + (M3 11 1))), some (.int (a5 + 1))] k29_59 rfl rfl rfl (by decide) rfl ?_
      refine q_goto (pc := 62) 23 k29_62 (by decide) ?_
      exact h
set_option maxRecDepth 20000 in
theorem vc30 {X : Nat × (Nat → Int32)} {d : Nat} {M : q_M} {K : q_M → Prop} (h : q_Ex X d 30 12 [some (.ref 64), some (.int 0)] [] (q_set (q_set M 64 0 0) 64 1 0) (q_rn K)) : q_Cv X d 30 [.ref 64] M K := by
  show q_Ex X d 30 0 [some (.ref 64), none] [] M (q_rn K)
  refine q_aload_n (pc := 0) k30_0 rfl ?_
  refine q_iconst (pc := 1) (v := 0) k30_1 (by decide) ?_
  refine q_putI (pc := 2) k30_2 fp30_40 rfl rfl ?_
  refine q_aload_n (pc := 5) k30_5 rfl ?_
  refine q_iconst (pc := 6) (v := 0) k30_6 (by decide) ?_
  refine q_putI (pc := 7) k30_7 fp30_44 rfl rfl ?_
  refine q_iconst (pc := 10) (v := 0) k30_10 (by decide) ?_
  refine q_istore_n (pc := 11) [some (.ref 64), some (.int 0)] k30_11 rfl (by decide) rfl ?_
  exact h
set_option maxRecDepth 20000 in
theorem vc30_p12 {X : Nat × (Nat → Int32)} {d : Nat} (hd : 0 < d) {M : q_M} {a1 : Int32} {K : q_M → Prop} (h : ((9 ≤ a1) → (q_Cv X (d - 1) 31 [.ref 64, .int 0, .int 0, .int 0, .int 0] M (fun M1 => q_Ex X d 30 70 [some (.ref 64), some (.int 0)] [] M1 (q_rn K)))) ∧ ((¬ 9 ≤ a1) → (vp_in a1 9 ∧ (vp_in a1 9 ∧ (vp_in a1 9 ∧ (q_Cv X (d - 1) 158 [.ref (69 + Int32.toNatClampNeg a1), .int 0] (q_set (q_set M 66 (Int32.toNatClampNeg a1) 0) 67 (Int32.toNatClampNeg a1) 0) (fun M3 => vp_in a1 9 ∧ (q_Cv X (d - 1) 158 [.ref (79 + Int32.toNatClampNeg a1), .int 0] M3 (fun M5 => q_Ex X d 30 12 [some (.ref 64), some (.int (a1 + 1))] [] M5 (q_rn K)))))))))) : q_Ex X d 30 12 [some (.ref 64), some (.int a1)] [] M (q_rn K) := by
  refine q_iload_n (pc := 12) k30_12 rfl ?_
  refine q_getsN (pc := 13) k30_13 (j := 0) (by decide) fs30_15 ?_
  refine q_rlen (pc := 16) (j := 0) (v := 9) k30_16 (by decide) rfl ?_
  refine q_icmp_ge (pc := 17) 60 k30_17 (by decide) (fun g => ?_) (fun g => ?_)
  · replace h := h.1 g
    refine q_aload_n (pc := 60) k30_60 rfl ?_
    refine q_iconst (pc := 61) (v := 0) k30_61 (by decide) ?_
    refine q_iconst (pc := 62) (v := 0) k30_62 (by decide) ?_
    refine q_iconst (pc := 63) (v := 0) k30_63 (by decide) ?_
    refine q_iconst (pc := 64) (v := 0) k30_64 (by decide) ?_
    refine q_invV (pc := 65) (As := [.int 0, .int 0, .int 0, .int 0]) (st := []) k30_65 lm30_53 ov31 rfl rfl rfl (q_cat rfl) (Nat.le_of_ble_eq_true rfl) hd h ?_
    rintro v M1 ⟨rfl, h⟩
    show q_Ex X d 30 (65 + 3) [some (.ref 64), some (.int a1)] [] M1 _
    refine q_iconst (pc := 68) (v := 0) k30_68 (by decide) ?_
    refine q_istore_n (pc := 69) [some (.ref 64), some (.int 0)] k30_69 rfl (by decide) rfl ?_
    exact h
  · replace h := h.2 g
    refine q_aload_n (pc := 20) k30_20 rfl ?_
    refine q_getR (pc := 21) k30_21 fg30_18 rfl rfl ?_
    refine q_iload_n (pc := 24) k30_24 rfl ?_
    refine q_iconst (pc := 25) (v := 0) k30_25 (by decide) ?_
    refine q_iastv (pc := 26) (k := (Int32.toNatClampNeg a1)) k30_26 rfl h.1 rfl ?_
    replace h := h.2
    refine q_aload_n (pc := 27) k30_27 rfl ?_
    refine q_getR (pc := 28) k30_28 fg30_21 rfl rfl ?_
    refine q_iload_n (pc := 31) k30_31 rfl ?_
    refine q_iconst (pc := 32) (v := 0) k30_32 (by decide) ?_
    refine q_iastv (pc := 33) (k := (Int32.toNatClampNeg a1)) k30_33 rfl h.1 rfl ?_
    replace h := h.2
    refine q_aload_n (pc := 34) k30_34 rfl ?_
    refine q_getR (pc := 35) k30_35 fg30_26 rfl rfl ?_
    refine q_iload_n (pc := 38) k30_38 rfl ?_
    have w2 := h.1
    replace h := h.2
    refine q_aald (pc := 39) k30_39 rfl w2 ?_
    refine q_iconst (pc := 40) (v := 0) k30_40 (by decide) ?_
    refine q_invS (pc := 41) (As := [.ref (69 + Int32.toNatClampNeg a1), .int 0]) (st := []) k30_41 lm30_47 os158 rfl rfl (q_cat rfl) (Nat.le_of_ble_eq_true rfl) hd h ?_
    rintro v M3 ⟨rfl, h⟩
    show q_Ex X d 30 (41 + 3) [some (.ref 64), some (.int a1)] [] M3 _
    refine q_aload_n (pc := 44) k30_44 rfl ?_
    refine q_getR (pc := 45) k30_45 fg30_29 rfl rfl ?_
    refine q_iload_n (pc := 48) k30_48 rfl ?_
    have w4 := h.1
    replace h := h.2
    refine q_aald (pc := 49) k30_49 rfl w4 ?_
    refine q_iconst (pc := 50) (v := 0) k30_50 (by decide) ?_
    refine q_invS (pc := 51) (As := [.ref (79 + Int32.toNatClampNeg a1), .int 0]) (st := []) k30_51 lm30_47 os158 rfl rfl (q_cat rfl) (Nat.le_of_ble_eq_true rfl) hd h ?_
    rintro v M5 ⟨rfl, h⟩
    show q_Ex X d 30 (51 + 3) [some (.ref 64), some (.int a1)] [] M5 _
    refine q_iinc (pc := 54) (v := a1 + 1) [some (.ref 64), some (.int (a1 + 1))] k30_54 rfl rfl rfl (by decide) rfl ?_
    refine q_goto (pc := 57) 12 k30_57 (by decide) ?_
    exact h
set_option maxRecDepth 20000 in
theorem vc30_p70 {X : Nat × (Nat → Int32)} {d : Nat} (hd : 0 < d) {M : q_M} {a1 : Int32} {K : q_M → Prop} (h : (((M 11 4) ≤ a1) → (K M)) ∧ ((¬ (M 11 4) ≤ a1) → (q_Ci X (d - 1) 25 [.ref 11, .int a1] M (fun r2 M1 => q_Ci X (d - 1) 26 [.ref 11, .int a1] M1 (fun r4 M3 => q_Ex X d 30 70 [some (.ref 64), some (.int (a1 + 1))] [] (q_set M3 64 1 ((M 64 1) &&& (((1 <<< (r2 &&& 31)) ^^^ (-1)) &&& ((1 <<< (r4 &&& 31)) ^^^ (-1))))) (q_rn K)))))) : q_Ex X d 30 70 [some (.ref 64), some (.int a1)] [] M (q_rn K) := by
  refine q_iload_n (pc := 70) k30_70 rfl ?_
  refine q_aload_n (pc := 71) k30_71 rfl ?_
  refine q_getR (pc := 72) k30_72 fg30_32 rfl rfl ?_
  refine q_getIv (pc := 75) (v := M 11 4) k30_75 fg30_57 rfl rfl rfl ?_
  refine q_icmp_ge (pc := 78) 121 k30_78 (by decide) (fun g => ?_) (fun g => ?_)
  · replace h := h.1 g
    exact q_return (pc := 121) k30_121 rfl ⟨rfl, h⟩
  · replace h := h.2 g
    refine q_aload_n (pc := 81) k30_81 rfl ?_
    refine q_dup (pc := 82) k30_82 rfl ?_
    refine q_getIv (pc := 83) (v := M 64 1) k30_83 fg30_44 rfl rfl rfl ?_
    refine q_iconst (pc := 86) (v := 1) k30_86 (by decide) ?_
    refine q_aload_n (pc := 87) k30_87 rfl ?_
    refine q_getR (pc := 88) k30_88 fg30_32 rfl rfl ?_
    refine q_iload_n (pc := 91) k30_91 rfl ?_
    refine q_invV (pc := 92) (As := [.int a1]) (st := [.int 1, .int (M 64 1), .ref 64]) k30_92 lm30_62 ov25 rfl rfl rfl (q_cat rfl) (Nat.le_of_ble_eq_true rfl) hd h ?_
    rintro v M1 ⟨r2, rfl, h⟩
    show q_Ex X d 30 (92 + 3) [some (.ref 64), some (.int a1)] [.int r2, .int 1, .int (M 64 1), .ref 64] M1 _
    refine q_ishl (pc := 95) k30_95 ?_
    refine q_iconst (pc := 96) (v := (-1)) k30_96 (by decide) ?_
    refine q_ixor (pc := 97) k30_97 ?_
    refine q_iconst (pc := 98) (v := 1) k30_98 (by decide) ?_
    refine q_aload_n (pc := 99) k30_99 rfl ?_
    refine q_getR (pc := 100) k30_100 fg30_32 rfl rfl ?_
    refine q_iload_n (pc := 103) k30_103 rfl ?_
    refine q_invV (pc := 104) (As := [.int a1]) (st := [.int 1, .int ((1 <<< (r2 &&& 31)) ^^^ (-1)), .int (M 64 1), .ref 64]) k30_104 lm30_66 ov26 rfl rfl rfl (q_cat rfl) (Nat.le_of_ble_eq_true rfl) hd h ?_
    rintro v M3 ⟨r4, rfl, h⟩
    show q_Ex X d 30 (104 + 3) [some (.ref 64), some (.int a1)] [.int r4, .int 1, .int ((1 <<< (r2 &&& 31)) ^^^ (-1)), .int (M 64 1), .ref 64] M3 _
    refine q_ishl (pc := 107) k30_107 ?_
    refine q_iconst (pc := 108) (v := (-1)) k30_108 (by decide) ?_
    refine q_ixor (pc := 109) k30_109 ?_
    refine q_iand (pc := 110) k30_110 ?_
    refine q_iand (pc := 111) k30_111 ?_
    refine q_putI (pc := 112) k30_112 fp30_44 rfl rfl ?_
    refine q_iinc (pc := 115) (v := a1 + 1) [some (.ref 64), some (.int (a1 + 1))] k30_115 rfl rfl rfl (by decide) rfl ?_
    refine q_goto (pc := 118) 70 k30_118 (by decide) ?_
    exact h
set_option maxRecDepth 20000 in
theorem vc31 {X : Nat × (Nat → Int32)} {d : Nat} (hd : 0 < d) {M : q_M} {a1 a2 a3 a4 : Int32} {K : q_M → Prop} (h : ((a1 < (M 44 1)) → (q_Cv X (d - 1) 31 [.ref 64, .int (a1 + 1), .int a2, .int a3, .int a4] M (fun M1 => q_Ex X d 31 34 [some (.ref 64), some (.int a1), some (.int a2), some (.int a3), some (.int a4), some (.int 0), none] [] M1 (q_rn K)))) ∧ ((¬ a1 < (M 44 1)) → (q_Cv X (d - 1) 32 [.ref 64, .int a2, .int a3, .int a4] M (fun M2 => K M2)))) : q_Cv X d 31 [.ref 64, .int a1, .int a2, .int a3, .int a4] M K := by
  show q_Ex X d 31 0 [some (.ref 64), some (.int a1), some (.int a2), some (.int a3), some (.int a4), none, none] [] M (q_rn K)
  refine q_iload_n (pc := 0) k31_0 rfl ?_
  refine q_aload_n (pc := 1) k31_1 rfl ?_
  refine q_getR (pc := 2) k31_2 fg31_36 rfl rfl ?_
  refine q_getIv (pc := 5) (v := M 44 1) k31_5 fg31_69 rfl rfl rfl ?_
  refine q_icmp_lt (pc := 8) 20 k31_8 (by decide) (fun g => ?_) (fun g => ?_)
  · replace h := h.1 g
    refine q_aload_n (pc := 20) k31_20 rfl ?_
    refine q_iload_n (pc := 21) k31_21 rfl ?_
    refine q_iconst (pc := 22) (v := 1) k31_22 (by decide) ?_
    refine q_iadd (pc := 23) k31_23 ?_
    refine q_iload_n (pc := 24) k31_24 rfl ?_
    refine q_iload_n (pc := 25) k31_25 rfl ?_
    refine q_iload (pc := 26) k31_26 rfl ?_
    refine q_invV (pc := 28) (As := [.int (a1 + 1), .int a2, .int a3, .int a4]) (st := []) k31_28 lm31_53 ov31 rfl rfl rfl (q_cat rfl) (Nat.le_of_ble_eq_true rfl) hd h ?_
    rintro v M1 ⟨rfl, h⟩
    show q_Ex X d 31 (28 + 3) [some (.ref 64), some (.int a1), some (.int a2), some (.int a3), some (.int a4), none, none] [] M1 _
    refine q_iconst (pc := 31) (v := 0) k31_31 (by decide) ?_
    refine q_istore (pc := 32) [some (.ref 64), some (.int a1), some (.int a2), some (.int a3), some (.int a4), some (.int 0), none] k31_32 rfl (by decide) rfl ?_
    exact h
  · replace h := h.2 g
    refine q_aload_n (pc := 11) k31_11 rfl ?_
    refine q_iload_n (pc := 12) k31_12 rfl ?_
    refine q_iload_n (pc := 13) k31_13 rfl ?_
    refine q_iload (pc := 14) k31_14 rfl ?_
    refine q_invV (pc := 16) (As := [.int a2, .int a3, .int a4]) (st := []) k31_16 lm31_72 ov32 rfl rfl rfl (q_cat rfl) (Nat.le_of_ble_eq_true rfl) hd h ?_
    rintro v M2 ⟨rfl, h⟩
    show q_Ex X d 31 (16 + 3) [some (.ref 64), some (.int a1), some (.int a2), some (.int a3), some (.int a4), none, none] [] M2 _
    exact q_return (pc := 19) k31_19 rfl ⟨rfl, h⟩
set_option maxRecDepth 20000 in
theorem vc31_p34 {X : Nat × (Nat → Int32)} {d : Nat} (hd : 0 < d) {M : q_M} {a1 a2 a3 a4 a5 : Int32} {K : q_M → Prop} (h : vp_in a1 3 ∧ ((((M 45 (Int32.toNatClampNeg a1)) ≤ a5) → (K M)) ∧ ((¬ (M 45 (Int32.toNatClampNeg a1)) ≤ a5) → (vp_in a1 3 ∧ (vp_in a5 126 ∧ (((¬ ((M (47 + Int32.toNatClampNeg a1) (Int32.toNatClampNeg a5)) &&& a2) = 0) → (q_Ex X d 31 34 [some (.ref 64), some (.int a1), some (.int a2), some (.int a3), some (.int a4), some (.int (a5 + 1)), none] [] M (q_rn K))) ∧ ((((M (47 + Int32.toNatClampNeg a1) (Int32.toNatClampNeg a5)) &&& a2) = 0) → (vp_in a1 3 ∧ (vp_in a1 3 ∧ (vp_in a1 3 ∧ (vp_in a5 126 ∧ (q_Cv X (d - 1) 31 [.ref 64, .int (a1 + 1), .int (a2 ||| (M (47 + Int32.toNatClampNeg a1) (Int32.toNatClampNeg a5))), .int (a3 + 1), .int (a4 + (((q_rc X 2).2 (Int32.toNatClampNeg a1)) * ((q_set M 65 (Int32.toNatClampNeg a1) (M (47 + Int32.toNatClampNeg a1) (Int32.toNatClampNeg a5))) (51 + Int32.toNatClampNeg a1) (Int32.toNatClampNeg a5))))] (q_set M 65 (Int32.toNatClampNeg a1) (M (47 + Int32.toNatClampNeg a1) (Int32.toNatClampNeg a5))) (fun M3 => q_Ex X d 31 34 [some (.ref 64), some (.int a1), some (.int a2), some (.int a3), some (.int a4), some (.int (a5 + 1)), none] [] M3 (q_rn K)))))))))))))) : q_Ex X d 31 34 [some (.ref 64), some (.int a1), some (.int a2), some (.int a3), some (.int a4), some (.int a5), none] [] M (q_rn K) := by
  refine q_iload (pc := 34) k31_34 rfl ?_
  refine q_aload_n (pc := 36) k31_36 rfl ?_
  refine q_getR (pc := 37) k31_37 fg31_36 rfl rfl ?_
  refine q_getR (pc := 40) k31_40 fg31_76 rfl rfl ?_
  refine q_iload_n (pc := 43) k31_43 rfl ?_
  refine q_ialdv (pc := 44) (v := M 45 (Int32.toNatClampNeg a1)) k31_44 rfl h.1 rfl ?_
  replace h := h.2
  refine q_icmp_ge (pc := 45) 118 k31_45 (by decide) (fun g => ?_) (fun g => ?_)
  · replace h := h.1 g
    exact q_return (pc := 118) k31_118 rfl ⟨rfl, h⟩
  · replace h := h.2 g
    refine q_aload_n (pc := 48) k31_48 rfl ?_
    refine q_getR (pc := 49) k31_49 fg31_36 rfl rfl ?_
    refine q_getR (pc := 52) k31_52 fg31_79 rfl rfl ?_
    refine q_iload_n (pc := 55) k31_55 rfl ?_
    have w1 := h.1
    replace h := h.2
    refine q_aald (pc := 56) k31_56 rfl w1 ?_
    refine q_iload (pc := 57) k31_57 rfl ?_
    refine q_ialdv (pc := 59) (v := M (47 + Int32.toNatClampNeg a1) (Int32.toNatClampNeg a5)) k31_59 (rw46 w1) h.1 rfl ?_
    replace h := h.2
    refine q_istore (pc := 60) [some (.ref 64), some (.int a1), some (.int a2), some (.int a3), some (.int a4), some (.int a5), some (.int (M (47 + Int32.toNatClampNeg a1) (Int32.toNatClampNeg a5)))] k31_60 rfl (by decide) rfl ?_
    refine q_iload (pc := 62) k31_62 rfl ?_
    refine q_iload_n (pc := 64) k31_64 rfl ?_
    refine q_iand (pc := 65) k31_65 ?_
    refine q_if_ne (pc := 66) 112 k31_66 (by decide) (fun g => ?_) (fun g => ?_)
    · replace h := h.1 g
      refine q_iinc (pc := 112) (v := a5 + 1) [some (.ref 64), some (.int a1), some (.int a2), some (.int a3), some (.int a4), some (.int (a5 + 1)), some (.int (M (47 + Int32.toNatClampNeg a1) (Int32.toNatClampNeg a5)))] k31_112 rfl rfl rfl (by decide) rfl ?_
      refine q_goto (pc := 115) 34 k31_115 (by decide) ?_
      exact q_forget [some (.ref 64), some (.int a1), some (.int a2), some (.int a3), some (.int a4), some (.int (a5 + 1)), none] (q_subOk (And.intro rfl (And.intro rfl (And.intro rfl (And.intro rfl (And.intro rfl (And.intro rfl (trivial)))))))) h
    · replace h := h.2 g
      refine q_aload_n (pc := 69) k31_69 rfl ?_
      refine q_getR (pc := 70) k31_70 fg31_9 rfl rfl ?_
      refine q_iload_n (pc := 73) k31_73 rfl ?_
      refine q_iload (pc := 74) k31_74 rfl ?_
      refine q_iastv (pc := 76) (k := (Int32.toNatClampNeg a1)) k31_76 rfl h.1 rfl ?_
      replace h := h.2
      refine q_aload_n (pc := 77) k31_77 rfl ?_
      refine q_iload_n (pc := 78) k31_78 rfl ?_
      refine q_iconst (pc := 79) (v := 1) k31_79 (by decide) ?_
      refine q_iadd (pc := 80) k31_80 ?_
      refine q_iload_n (pc := 81) k31_81 rfl ?_
      refine q_iload (pc := 82) k31_82 rfl ?_
      refine q_ior (pc := 84) k31_84 ?_
      refine q_iload_n (pc := 85) k31_85 rfl ?_
      refine q_iconst (pc := 86) (v := 1) k31_86 (by decide) ?_
      refine q_iadd (pc := 87) k31_87 ?_
      refine q_iload (pc := 88) k31_88 rfl ?_
      refine q_getsN (pc := 90) k31_90 (j := 2) (by decide) fs31_82 ?_
      refine q_iload_n (pc := 93) k31_93 rfl ?_
      refine q_raldv (pc := 94) (j := 2) (v := (q_rc X 2).2 (Int32.toNatClampNeg a1)) k31_94 (by decide) h.1 rfl ?_
      replace h := h.2
      refine q_aload_n (pc := 95) k31_95 rfl ?_
      refine q_getR (pc := 96) k31_96 fg31_36 rfl rfl ?_
      refine q_getR (pc := 99) k31_99 fg31_85 rfl rfl ?_
      refine q_iload_n (pc := 102) k31_102 rfl ?_
      have w2 := h.1
      replace h := h.2
      refine q_aald (pc := 103) k31_103 rfl w2 ?_
      refine q_iload (pc := 104) k31_104 rfl ?_
      refine q_ialdv (pc := 106) (v := (q_set M 65 (Int32.toNatClampNeg a1) (M (47 + Int32.toNatClampNeg a1) (Int32.toNatClampNeg a5))) (51 + Int32.toNatClampNeg a1) (Int32.toNatClampNeg a5)) k31_106 (rw50 w2) h.1 rfl ?_
      replace h := h.2
      refine q_imul (pc := 107) k31_107 ?_
      refine q_iadd (pc := 108) k31_108 ?_
      refine q_invV (pc := 109) (As := [.int (a1 + 1), .int (a2 ||| (M (47 + Int32.toNatClampNeg a1) (Int32.toNatClampNeg a5))), .int (a3 + 1), .int (a4 + (((q_rc X 2).2 (Int32.toNatClampNeg a1)) * ((q_set M 65 (Int32.toNatClampNeg a1) (M (47 + Int32.toNatClampNeg a1) (Int32.toNatClampNeg a5))) (51 + Int32.toNatClampNeg a1) (Int32.toNatClampNeg a5))))]) (st := []) k31_109 lm31_53 ov31 rfl rfl rfl (q_cat rfl) (Nat.le_of_ble_eq_true rfl) hd h ?_
      rintro v M3 ⟨rfl, h⟩
      show q_Ex X d 31 (109 + 3) [some (.ref 64), some (.int a1), some (.int a2), some (.int a3), some (.int a4), some (.int a5), some (.int (M (47 + Int32.toNatClampNeg a1) (Int32.toNatClampNeg a5)))] [] M3 _
      refine q_iinc (pc := 112) (v := a5 + 1) [some (.ref 64), some (.int a1), some (.int a2), some (.int a3), some (.int a4), some (.int (a5 + 1)), some (.int (M (47 + Int32.toNatClampNeg a1) (Int32.toNatClampNeg a5)))] k31_112 rfl rfl rfl (by decide) rfl ?_
      refine q_goto (pc := 115) 34 k31_115 (by decide) ?_
      exact q_forget [some (.ref 64), some (.int a1), some (.int a2), some (.int a3), some (.int a4), some (.int (a5 + 1)), none] (q_subOk (And.intro rfl (And.intro rfl (And.intro rfl (And.intro rfl (And.intro rfl (And.intro rfl (trivial)))))))) h
set_option maxRecDepth 20000 in
theorem vc32 {X : Nat × (Nat → Int32)} {d : Nat} (hd : 0 < d) {M : q_M} {a1 a2 a3 : Int32} {K : q_M → Prop} (h : ((a2 ≤ (M 64 0)) → (((¬ a2 = (M 64 0)) → (((a2 ≤ 0) → (K M)) ∧ ((¬ a2 ≤ 0) → (((¬ a2 = (M 44 1)) → (K M)) ∧ ((a2 = (M 44 1)) → (q_Ci X (d - 1) 87 [.int a3, .int a2] M (fun r2 M1 => q_Cv X (d - 1) 33 [.ref 64, .int a1, .int r2] M1 (fun M3 => K M3)))))))) ∧ ((a2 = (M 64 0)) → (((a2 ≤ 0) → (K (q_set M 64 1 ((M 64 1) &&& a1)))) ∧ ((¬ a2 ≤ 0) → (((¬ a2 = (M 44 1)) → (K (q_set M 64 1 ((M 64 1) &&& a1)))) ∧ ((a2 = (M 44 1)) → (q_Ci X (d - 1) 87 [.int a3, .int a2] (q_set M 64 1 ((M 64 1) &&& a1)) (fun r5 M4 => q_Cv X (d - 1) 33 [.ref 64, .int a1, .int r5] M4 (fun M6 => K M6)))))))))) ∧ ((¬ a2 ≤ (M 64 0)) → (((a2 ≤ 0) → (K (q_set (q_set M 64 0 a2) 64 1 a1))) ∧ ((¬ a2 ≤ 0) → (((¬ a2 = (M 44 1)) → (K (q_set (q_set M 64 0 a2) 64 1 a1))) ∧ ((a2 = (M 44 1)) → (q_Ci X (d - 1) 87 [.int a3, .int a2] (q_set (q_set M 64 0 a2) 64 1 a1) (fun r8 M7 => q_Cv X (d - 1) 33 [.ref 64, .int a1, .int r8] M7 (fun M9 => K M9))))))))) : q_Cv X d 32 [.ref 64, .int a1, .int a2, .int a3] M K := by
  show q_Ex X d 32 0 [some (.ref 64), some (.int a1), some (.int a2), some (.int a3)] [] M (q_rn K)
  refine q_iload_n (pc := 0) k32_0 rfl ?_
  refine q_aload_n (pc := 1) k32_1 rfl ?_
  refine q_getIv (pc := 2) (v := M 64 0) k32_2 fg32_40 rfl rfl rfl ?_
  refine q_icmp_le (pc := 5) 21 k32_5 (by decide) (fun g => ?_) (fun g => ?_)
  · replace h := h.1 g
    refine q_iload_n (pc := 21) k32_21 rfl ?_
    refine q_aload_n (pc := 22) k32_22 rfl ?_
    refine q_getIv (pc := 23) (v := M 64 0) k32_23 fg32_40 rfl rfl rfl ?_
    refine q_icmp_ne (pc := 26) 39 k32_26 (by decide) (fun g => ?_) (fun g => ?_)
    · replace h := h.1 g
      refine q_iload_n (pc := 39) k32_39 rfl ?_
      refine q_if_le (pc := 40) 64 k32_40 (by decide) (fun g => ?_) (fun g => ?_)
      · replace h := h.1 g
        exact q_return (pc := 64) k32_64 rfl ⟨rfl, h⟩
      · replace h := h.2 g
        refine q_iload_n (pc := 43) k32_43 rfl ?_
        refine q_aload_n (pc := 44) k32_44 rfl ?_
        refine q_getR (pc := 45) k32_45 fg32_36 rfl rfl ?_
        refine q_getIv (pc := 48) (v := M 44 1) k32_48 fg32_69 rfl rfl rfl ?_
        refine q_icmp_ne (pc := 51) 64 k32_51 (by decide) (fun g => ?_) (fun g => ?_)
        · replace h := h.1 g
          exact q_return (pc := 64) k32_64 rfl ⟨rfl, h⟩
        · replace h := h.2 g
          refine q_aload_n (pc := 54) k32_54 rfl ?_
          refine q_iload_n (pc := 55) k32_55 rfl ?_
          refine q_iload_n (pc := 56) k32_56 rfl ?_
          refine q_iload_n (pc := 57) k32_57 rfl ?_
          refine q_invSN (pc := 58) (As := [.int a3, .int a2]) (st := [.int a1, .ref 64]) k32_58 lm32_88 os87 rfl rfl (q_cat rfl) (Nat.le_of_ble_eq_true rfl) hd h ?_
          rintro v M1 ⟨r2, rfl, h⟩
          show q_Ex X d 32 (58 + 3) [some (.ref 64), some (.int a1), some (.int a2), some (.int a3)] [.int r2, .int a1, .ref 64] M1 _
          refine q_invV (pc := 61) (As := [.int a1, .int r2]) (st := []) k32_61 lm32_92 ov33 rfl rfl rfl (q_cat rfl) (Nat.le_of_ble_eq_true rfl) hd h ?_
          rintro v M3 ⟨rfl, h⟩
          show q_Ex X d 32 (61 + 3) [some (.ref 64), some (.int a1), some (.int a2), some (.int a3)] [] M3 _
          exact q_return (pc := 64) k32_64 rfl ⟨rfl, h⟩
    · replace h := h.2 g
      refine q_aload_n (pc := 29) k32_29 rfl ?_
      refine q_dup (pc := 30) k32_30 rfl ?_
      refine q_getIv (pc := 31) (v := M 64 1) k32_31 fg32_44 rfl rfl rfl ?_
      refine q_iload_n (pc := 34) k32_34 rfl ?_
      refine q_iand (pc := 35) k32_35 ?_
      refine q_putI (pc := 36) k32_36 fp32_44 rfl rfl ?_
      refine q_iload_n (pc := 39) k32_39 rfl ?_
      refine q_if_le (pc := 40) 64 k32_40 (by decide) (fun g => ?_) (fun g => ?_)
      · replace h := h.1 g
        exact q_return (pc := 64) k32_64 rfl ⟨rfl, h⟩
      · replace h := h.2 g
        refine q_iload_n (pc := 43) k32_43 rfl ?_
        refine q_aload_n (pc := 44) k32_44 rfl ?_
        refine q_getR (pc := 45) k32_45 fg32_36 rfl rfl ?_
        refine q_getIv (pc := 48) (v := M 44 1) k32_48 fg32_69 rfl rfl rfl ?_
        refine q_icmp_ne (pc := 51) 64 k32_51 (by decide) (fun g => ?_) (fun g => ?_)
        · replace h := h.1 g
          exact q_return (pc := 64) k32_64 rfl ⟨rfl, h⟩
        · replace h := h.2 g
          refine q_aload_n (pc := 54) k32_54 rfl ?_
          refine q_iload_n (pc := 55) k32_55 rfl ?_
          refine q_iload_n (pc := 56) k32_56 rfl ?_
          refine q_iload_n (pc := 57) k32_57 rfl ?_
          refine q_invSN (pc := 58) (As := [.int a3, .int a2]) (st := [.int a1, .ref 64]) k32_58 lm32_88 os87 rfl rfl (q_cat rfl) (Nat.le_of_ble_eq_true rfl) hd h ?_
          rintro v M4 ⟨r5, rfl, h⟩
          show q_Ex X d 32 (58 + 3) [some (.ref 64), some (.int a1), some (.int a2), some (.int a3)] [.int r5, .int a1, .ref 64] M4 _
          refine q_invV (pc := 61) (As := [.int a1, .int r5]) (st := []) k32_61 lm32_92 ov33 rfl rfl rfl (q_cat rfl) (Nat.le_of_ble_eq_true rfl) hd h ?_
          rintro v M6 ⟨rfl, h⟩
          show q_Ex X d 32 (61 + 3) [some (.ref 64), some (.int a1), some (.int a2), some (.int a3)] [] M6 _
          exact q_return (pc := 64) k32_64 rfl ⟨rfl, h⟩
  · replace h := h.2 g
    refine q_aload_n (pc := 8) k32_8 rfl ?_
    refine q_iload_n (pc := 9) k32_9 rfl ?_
    refine q_putI (pc := 10) k32_10 fp32_40 rfl rfl ?_
    refine q_aload_n (pc := 13) k32_13 rfl ?_
    refine q_iload_n (pc := 14) k32_14 rfl ?_
    refine q_putI (pc := 15) k32_15 fp32_44 rfl rfl ?_
    refine q_goto (pc := 18) 39 k32_18 (by decide) ?_
    refine q_iload_n (pc := 39) k32_39 rfl ?_
    refine q_if_le (pc := 40) 64 k32_40 (by decide) (fun g => ?_) (fun g => ?_)
    · replace h := h.1 g
      exact q_return (pc := 64) k32_64 rfl ⟨rfl, h⟩
    · replace h := h.2 g
      refine q_iload_n (pc := 43) k32_43 rfl ?_
      refine q_aload_n (pc := 44) k32_44 rfl ?_
      refine q_getR (pc := 45) k32_45 fg32_36 rfl rfl ?_
      refine q_getIv (pc := 48) (v := M 44 1) k32_48 fg32_69 rfl rfl rfl ?_
      refine q_icmp_ne (pc := 51) 64 k32_51 (by decide) (fun g => ?_) (fun g => ?_)
      · replace h := h.1 g
        exact q_return (pc := 64) k32_64 rfl ⟨rfl, h⟩
      · replace h := h.2 g
        refine q_aload_n (pc := 54) k32_54 rfl ?_
        refine q_iload_n (pc := 55) k32_55 rfl ?_
        refine q_iload_n (pc := 56) k32_56 rfl ?_
        refine q_iload_n (pc := 57) k32_57 rfl ?_
        refine q_invSN (pc := 58) (As := [.int a3, .int a2]) (st := [.int a1, .ref 64]) k32_58 lm32_88 os87 rfl rfl (q_cat rfl) (Nat.le_of_ble_eq_true rfl) hd h ?_
        rintro v M7 ⟨r8, rfl, h⟩
        show q_Ex X d 32 (58 + 3) [some (.ref 64), some (.int a1), some (.int a2), some (.int a3)] [.int r8, .int a1, .ref 64] M7 _
        refine q_invV (pc := 61) (As := [.int a1, .int r8]) (st := []) k32_61 lm32_92 ov33 rfl rfl rfl (q_cat rfl) (Nat.le_of_ble_eq_true rfl) hd h ?_
        rintro v M9 ⟨rfl, h⟩
        show q_Ex X d 32 (61 + 3) [some (.ref 64), some (.int a1), some (.int a2), some (.int a3)] [] M9 _
        exact q_return (pc := 64) k32_64 rfl ⟨rfl, h⟩
set_option maxRecDepth 20000 in
theorem vc33 {X : Nat × (Nat → Int32)} {d : Nat} {M : q_M} {a1 a2 : Int32} {K : q_M → Prop} (h : ((0 ≤ a2) → (q_Ex X d 33 10 [some (.ref 64), some (.int a1), some (.int a2), some (.int 0), some (.int 0)] [] M (q_rn K))) ∧ ((¬ 0 ≤ a2) → (K M))) : q_Cv X d 33 [.ref 64, .int a1, .int a2] M K := by
  show q_Ex X d 33 0 [some (.ref 64), some (.int a1), some (.int a2), none, none] [] M (q_rn K)
  refine q_iload_n (pc := 0) k33_0 rfl ?_
  refine q_if_ge (pc := 1) 5 k33_1 (by decide) (fun g => ?_) (fun g => ?_)
  · replace h := h.1 g
    refine q_iconst (pc := 5) (v := 0) k33_5 (by decide) ?_
    refine q_istore_n (pc := 6) [some (.ref 64), some (.int a1), some (.int a2), some (.int 0), none] k33_6 rfl (by decide) rfl ?_
    refine q_iconst (pc := 7) (v := 0) k33_7 (by decide) ?_
    refine q_istore (pc := 8) [some (.ref 64), some (.int a1), some (.int a2), some (.int 0), some (.int 0)] k33_8 rfl (by decide) rfl ?_
    exact h
  · replace h := h.2 g
    exact q_return (pc := 4) k33_4 rfl ⟨rfl, h⟩
set_option maxRecDepth 20000 in
theorem vc33_p10 {X : Nat × (Nat → Int32)} {d : Nat} (hd : 0 < d) {M : q_M} {a1 a2 a3 a4 : Int32} {K : q_M → Prop} (h : (((M 11 2) ≤ a4) → (vp_in a2 9 ∧ ((((M 66 (Int32.toNatClampNeg a2)) = 0) → (vp_in a2 9 ∧ (vp_in a2 9 ∧ (vp_in a2 9 ∧ (K (q_set (q_set M 67 (Int32.toNatClampNeg a2) a3) 66 (Int32.toNatClampNeg a2) ((M 66 (Int32.toNatClampNeg a2)) + 1))))))) ∧ ((¬ (M 66 (Int32.toNatClampNeg a2)) = 0) → (vp_in a2 9 ∧ ((((M 67 (Int32.toNatClampNeg a2)) ≤ a3) → (vp_in a2 9 ∧ (vp_in a2 9 ∧ (K (q_set M 66 (Int32.toNatClampNeg a2) ((M 66 (Int32.toNatClampNeg a2)) + 1)))))) ∧ ((¬ (M 67 (Int32.toNatClampNeg a2)) ≤ a3) → (vp_in a2 9 ∧ (vp_in a2 9 ∧ (vp_in a2 9 ∧ (K (q_set (q_set M 67 (Int32.toNatClampNeg a2) a3) 66 (Int32.toNatClampNeg a2) ((M 66 (Int32.toNatClampNeg a2)) + 1))))))))))))) ∧ ((¬ (M 11 2) ≤ a4) → (q_Ci X (d - 1) 90 [.int a1, .int a4] M (fun r2 M1 => ((r2 = 0) → (q_Ex X d 33 10 [some (.ref 64), some (.int a1), some (.int a2), some (.int a3), some (.int (a4 + 1))] [] M1 (q_rn K))) ∧ ((¬ r2 = 0) → (vp_in a4 30 ∧ (vp_in a2 9 ∧ (vp_in a4 30 ∧ (vp_in a4 30 ∧ (vp_in a2 9 ∧ (vp_in a4 30 ∧ (q_Ci X (d - 1) 34 [.ref 64, .int a4] (q_set M1 (69 + Int32.toNatClampNeg a2) (Int32.toNatClampNeg a4) ((M1 (69 + Int32.toNatClampNeg a2) (Int32.toNatClampNeg a4)) + 1)) (fun r6 M5 => vp_in a4 30 ∧ (q_Ex X d 33 10 [some (.ref 64), some (.int a1), some (.int a2), some (.int (a3 + (M1 13 (Int32.toNatClampNeg a4)))), some (.int (a4 + 1))] [] (q_set M5 (79 + Int32.toNatClampNeg a2) (Int32.toNatClampNeg a4) (((q_set M1 (69 + Int32.toNatClampNeg a2) (Int32.toNatClampNeg a4) ((M1 (69 + Int32.toNatClampNeg a2) (Int32.toNatClampNeg a4)) + 1)) (79 + Int32.toNatClampNeg a2) (Int32.toNatClampNeg a4)) ||| r6)) (q_rn K))))))))))))))) : q_Ex X d 33 10 [some (.ref 64), some (.int a1), some (.int a2), some (.int a3), some (.int a4)] [] M (q_rn K) := by
  refine q_iload (pc := 10) k33_10 rfl ?_
  refine q_aload_n (pc := 12) k33_12 rfl ?_
  refine q_getR (pc := 13) k33_13 fg33_32 rfl rfl ?_
  refine q_getIv (pc := 16) (v := M 11 2) k33_16 fg33_96 rfl rfl rfl ?_
  refine q_icmp_ge (pc := 19) 81 k33_19 (by decide) (fun g => ?_) (fun g => ?_)
  · replace h := h.1 g
    refine q_aload_n (pc := 81) k33_81 rfl ?_
    refine q_getR (pc := 82) k33_82 fg33_18 rfl rfl ?_
    refine q_iload_n (pc := 85) k33_85 rfl ?_
    refine q_ialdv (pc := 86) (v := M 66 (Int32.toNatClampNeg a2)) k33_86 rfl h.1 rfl ?_
    replace h := h.2
    refine q_if_eq (pc := 87) 100 k33_87 (by decide) (fun g => ?_) (fun g => ?_)
    · replace h := h.1 g
      refine q_aload_n (pc := 100) k33_100 rfl ?_
      refine q_getR (pc := 101) k33_101 fg33_21 rfl rfl ?_
      refine q_iload_n (pc := 104) k33_104 rfl ?_
      refine q_iload_n (pc := 105) k33_105 rfl ?_
      refine q_iastv (pc := 106) (k := (Int32.toNatClampNeg a2)) k33_106 rfl h.1 rfl ?_
      replace h := h.2
      refine q_aload_n (pc := 107) k33_107 rfl ?_
      refine q_getR (pc := 108) k33_108 fg33_18 rfl rfl ?_
      refine q_iload_n (pc := 111) k33_111 rfl ?_
      refine q_dup2 (pc := 112) k33_112 rfl rfl ?_
      refine q_ialdv (pc := 113) (v := M 66 (Int32.toNatClampNeg a2)) k33_113 rfl h.1 rfl ?_
      replace h := h.2
      refine q_iconst (pc := 114) (v := 1) k33_114 (by decide) ?_
      refine q_iadd (pc := 115) k33_115 ?_
      refine q_iastv (pc := 116) (k := (Int32.toNatClampNeg a2)) k33_116 rfl h.1 rfl ?_
      replace h := h.2
      exact q_return (pc := 117) k33_117 rfl ⟨rfl, h⟩
    · replace h := h.2 g
      refine q_iload_n (pc := 90) k33_90 rfl ?_
      refine q_aload_n (pc := 91) k33_91 rfl ?_
      refine q_getR (pc := 92) k33_92 fg33_21 rfl rfl ?_
      refine q_iload_n (pc := 95) k33_95 rfl ?_
      refine q_ialdv (pc := 96) (v := M 67 (Int32.toNatClampNeg a2)) k33_96 rfl h.1 rfl ?_
      replace h := h.2
      refine q_icmp_ge (pc := 97) 107 k33_97 (by decide) (fun g => ?_) (fun g => ?_)
      · replace h := h.1 g
        refine q_aload_n (pc := 107) k33_107 rfl ?_
        refine q_getR (pc := 108) k33_108 fg33_18 rfl rfl ?_
        refine q_iload_n (pc := 111) k33_111 rfl ?_
        refine q_dup2 (pc := 112) k33_112 rfl rfl ?_
        refine q_ialdv (pc := 113) (v := M 66 (Int32.toNatClampNeg a2)) k33_113 rfl h.1 rfl ?_
        replace h := h.2
        refine q_iconst (pc := 114) (v := 1) k33_114 (by decide) ?_
        refine q_iadd (pc := 115) k33_115 ?_
        refine q_iastv (pc := 116) (k := (Int32.toNatClampNeg a2)) k33_116 rfl h.1 rfl ?_
        replace h := h.2
        exact q_return (pc := 117) k33_117 rfl ⟨rfl, h⟩
      · replace h := h.2 g
        refine q_aload_n (pc := 100) k33_100 rfl ?_
        refine q_getR (pc := 101) k33_101 fg33_21 rfl rfl ?_
        refine q_iload_n (pc := 104) k33_104 rfl ?_
        refine q_iload_n (pc := 105) k33_105 rfl ?_
        refine q_iastv (pc := 106) (k := (Int32.toNatClampNeg a2)) k33_106 rfl h.1 rfl ?_
        replace h := h.2
        refine q_aload_n (pc := 107) k33_107 rfl ?_
        refine q_getR (pc := 108) k33_108 fg33_18 rfl rfl ?_
        refine q_iload_n (pc := 111) k33_111 rfl ?_
        refine q_dup2 (pc := 112) k33_112 rfl rfl ?_
        refine q_ialdv (pc := 113) (v := M 66 (Int32.toNatClampNeg a2)) k33_113 rfl h.1 rfl ?_
        replace h := h.2
        refine q_iconst (pc := 114) (v := 1) k33_114 (by decide) ?_
        refine q_iadd (pc := 115) k33_115 ?_
        refine q_iastv (pc := 116) (k := (Int32.toNatClampNeg a2)) k33_116 rfl h.1 rfl ?_
        replace h := h.2
        exact q_return (pc := 117) k33_117 rfl ⟨rfl, h⟩
  · replace h := h.2 g
    refine q_iload_n (pc := 22) k33_22 rfl ?_
    refine q_iload (pc := 23) k33_23 rfl ?_
    refine q_invSN (pc := 25) (As := [.int a1, .int a4]) (st := []) k33_25 lm33_98 os90 rfl rfl (q_cat rfl) (Nat.le_of_ble_eq_true rfl) hd h ?_
    rintro v M1 ⟨r2, rfl, h⟩
    show q_Ex X d 33 (25 + 3) [some (.ref 64), some (.int a1), some (.int a2), some (.int a3), some (.int a4)] [.int r2] M1 _
    refine q_if_eq (pc := 28) 75 k33_28 (by decide) (fun g => ?_) (fun g => ?_)
    · replace h := h.1 g
      refine q_iinc (pc := 75) (v := a4 + 1) [some (.ref 64), some (.int a1), some (.int a2), some (.int a3), some (.int (a4 + 1))] k33_75 rfl rfl rfl (by decide) rfl ?_
      refine q_goto (pc := 78) 10 k33_78 (by decide) ?_
      exact h
    · replace h := h.2 g
      refine q_iload_n (pc := 31) k33_31 rfl ?_
      refine q_aload_n (pc := 32) k33_32 rfl ?_
      refine q_getR (pc := 33) k33_33 fg33_32 rfl rfl ?_
      refine q_getR (pc := 36) k33_36 fg33_102 rfl rfl ?_
      refine q_iload (pc := 39) k33_39 rfl ?_
      refine q_ialdv (pc := 41) (v := M1 13 (Int32.toNatClampNeg a4)) k33_41 rfl h.1 rfl ?_
      replace h := h.2
      refine q_iadd (pc := 42) k33_42 ?_
      refine q_istore_n (pc := 43) [some (.ref 64), some (.int a1), some (.int a2), some (.int (a3 + (M1 13 (Int32.toNatClampNeg a4)))), some (.int a4)] k33_43 rfl (by decide) rfl ?_
      refine q_aload_n (pc := 44) k33_44 rfl ?_
      refine q_getR (pc := 45) k33_45 fg33_26 rfl rfl ?_
      refine q_iload_n (pc := 48) k33_48 rfl ?_
      have w3 := h.1
      replace h := h.2
      refine q_aald (pc := 49) k33_49 rfl w3 ?_
      refine q_iload (pc := 50) k33_50 rfl ?_
      refine q_dup2 (pc := 52) k33_52 rfl rfl ?_
      refine q_ialdv (pc := 53) (v := M1 (69 + Int32.toNatClampNeg a2) (Int32.toNatClampNeg a4)) k33_53 (rw68 w3) h.1 rfl ?_
      replace h := h.2
      refine q_iconst (pc := 54) (v := 1) k33_54 (by decide) ?_
      refine q_iadd (pc := 55) k33_55 ?_
      refine q_iastv (pc := 56) (k := (Int32.toNatClampNeg a4)) k33_56 (rw68 w3) h.1 rfl ?_
      replace h := h.2
      refine q_aload_n (pc := 57) k33_57 rfl ?_
      refine q_getR (pc := 58) k33_58 fg33_29 rfl rfl ?_
      refine q_iload_n (pc := 61) k33_61 rfl ?_
      have w4 := h.1
      replace h := h.2
      refine q_aald (pc := 62) k33_62 rfl w4 ?_
      refine q_iload (pc := 63) k33_63 rfl ?_
      refine q_dup2 (pc := 65) k33_65 rfl rfl ?_
      refine q_ialdv (pc := 66) (v := (q_set M1 (69 + Int32.toNatClampNeg a2) (Int32.toNatClampNeg a4) ((M1 (69 + Int32.toNatClampNeg a2) (Int32.toNatClampNeg a4)) + 1)) (79 + Int32.toNatClampNeg a2) (Int32.toNatClampNeg a4)) k33_66 (rw78 w4) h.1 rfl ?_
      replace h := h.2
      refine q_aload_n (pc := 67) k33_67 rfl ?_
      refine q_iload (pc := 68) k33_68 rfl ?_
      refine q_invV (pc := 70) (As := [.int a4]) (st := [.int ((q_set M1 (69 + Int32.toNatClampNeg a2) (Int32.toNatClampNeg a4) ((M1 (69 + Int32.toNatClampNeg a2) (Int32.toNatClampNeg a4)) + 1)) (79 + Int32.toNatClampNeg a2) (Int32.toNatClampNeg a4)), .int a4, .ref (79 + Int32.toNatClampNeg a2)]) k33_70 lm33_105 ov34 rfl rfl rfl (q_cat rfl) (Nat.le_of_ble_eq_true rfl) hd h ?_
      rintro v M5 ⟨r6, rfl, h⟩
      show q_Ex X d 33 (70 + 3) [some (.ref 64), some (.int a1), some (.int a2), some (.int (a3 + (M1 13 (Int32.toNatClampNeg a4)))), some (.int a4)] [.int r6, .int ((q_set M1 (69 + Int32.toNatClampNeg a2) (Int32.toNatClampNeg a4) ((M1 (69 + Int32.toNatClampNeg a2) (Int32.toNatClampNeg a4)) + 1)) (79 + Int32.toNatClampNeg a2) (Int32.toNatClampNeg a4)), .int a4, .ref (79 + Int32.toNatClampNeg a2)] M5 _
      refine q_ior (pc := 73) k33_73 ?_
      refine q_iastv (pc := 74) (k := (Int32.toNatClampNeg a4)) k33_74 (rw78 w4) h.1 rfl ?_
      replace h := h.2
      refine q_iinc (pc := 75) (v := a4 + 1) [some (.ref 64), some (.int a1), some (.int a2), some (.int (a3 + (M1 13 (Int32.toNatClampNeg a4)))), some (.int (a4 + 1))] k33_75 rfl rfl rfl (by decide) rfl ?_
      refine q_goto (pc := 78) 10 k33_78 (by decide) ?_
      exact h
set_option maxRecDepth 20000 in
theorem vc34 {X : Nat × (Nat → Int32)} {d : Nat} {M : q_M} {a1 : Int32} {K : Int32 → q_M → Prop} (h : q_Ex X d 34 4 [some (.ref 64), some (.int a1), some (.int 0), some (.int 0)] [] M (q_ri K)) : q_Ci X d 34 [.ref 64, .int a1] M K := by
  show q_Ex X d 34 0 [some (.ref 64), some (.int a1), none, none] [] M (q_ri K)
  refine q_iconst (pc := 0) (v := 0) k34_0 (by decide) ?_
  refine q_istore_n (pc := 1) [some (.ref 64), some (.int a1), some (.int 0), none] k34_1 rfl (by decide) rfl ?_
  refine q_iconst (pc := 2) (v := 0) k34_2 (by decide) ?_
  refine q_istore_n (pc := 3) [some (.ref 64), some (.int a1), some (.int 0), some (.int 0)] k34_3 rfl (by decide) rfl ?_
  exact h
set_option maxRecDepth 20000 in
theorem vc34_p4 {X : Nat × (Nat → Int32)} {d : Nat} (hd : 0 < d) {M : q_M} {a1 a2 a3 : Int32} {K : Int32 → q_M → Prop} (h : (((M 44 1) ≤ a3) → (K a2 M)) ∧ ((¬ (M 44 1) ≤ a3) → (vp_in a3 3 ∧ (q_Ci X (d - 1) 90 [.int (M 65 (Int32.toNatClampNeg a3)), .int a1] M (fun r2 M1 => ((r2 = 0) → (q_Ex X d 34 4 [some (.ref 64), some (.int a1), some (.int a2), some (.int (a3 + 1))] [] M1 (q_ri K))) ∧ ((¬ r2 = 0) → (q_Ex X d 34 4 [some (.ref 64), some (.int a1), some (.int (a2 ||| (1 <<< (a3 &&& 31)))), some (.int (a3 + 1))] [] M1 (q_ri K)))))))) : q_Ex X d 34 4 [some (.ref 64), some (.int a1), some (.int a2), some (.int a3)] [] M (q_ri K) := by
  refine q_iload_n (pc := 4) k34_4 rfl ?_
  refine q_aload_n (pc := 5) k34_5 rfl ?_
  refine q_getR (pc := 6) k34_6 fg34_36 rfl rfl ?_
  refine q_getIv (pc := 9) (v := M 44 1) k34_9 fg34_69 rfl rfl rfl ?_
  refine q_icmp_ge (pc := 12) 40 k34_12 (by decide) (fun g => ?_) (fun g => ?_)
  · replace h := h.1 g
    refine q_iload_n (pc := 40) k34_40 rfl ?_
    exact q_ireturn (pc := 41) k34_41 rfl ⟨_, rfl, h⟩
  · replace h := h.2 g
    refine q_aload_n (pc := 15) k34_15 rfl ?_
    refine q_getR (pc := 16) k34_16 fg34_9 rfl rfl ?_
    refine q_iload_n (pc := 19) k34_19 rfl ?_
    refine q_ialdv (pc := 20) (v := M 65 (Int32.toNatClampNeg a3)) k34_20 rfl h.1 rfl ?_
    replace h := h.2
    refine q_iload_n (pc := 21) k34_21 rfl ?_
    refine q_invSN (pc := 22) (As := [.int (M 65 (Int32.toNatClampNeg a3)), .int a1]) (st := []) k34_22 lm34_98 os90 rfl rfl (q_cat rfl) (Nat.le_of_ble_eq_true rfl) hd h ?_
    rintro v M1 ⟨r2, rfl, h⟩
    show q_Ex X d 34 (22 + 3) [some (.ref 64), some (.int a1), some (.int a2), some (.int a3)] [.int r2] M1 _
    refine q_if_eq (pc := 25) 34 k34_25 (by decide) (fun g => ?_) (fun g => ?_)
    · replace h := h.1 g
      refine q_iinc (pc := 34) (v := a3 + 1) [some (.ref 64), some (.int a1), some (.int a2), some (.int (a3 + 1))] k34_34 rfl rfl rfl (by decide) rfl ?_
      refine q_goto (pc := 37) 4 k34_37 (by decide) ?_
      exact h
    · replace h := h.2 g
      refine q_iload_n (pc := 28) k34_28 rfl ?_
      refine q_iconst (pc := 29) (v := 1) k34_29 (by decide) ?_
      refine q_iload_n (pc := 30) k34_30 rfl ?_
      refine q_ishl (pc := 31) k34_31 ?_
      refine q_ior (pc := 32) k34_32 ?_
      refine q_istore_n (pc := 33) [some (.ref 64), some (.int a1), some (.int (a2 ||| (1 <<< (a3 &&& 31)))), some (.int a3)] k34_33 rfl (by decide) rfl ?_
      refine q_iinc (pc := 34) (v := a3 + 1) [some (.ref 64), some (.int a1), some (.int (a2 ||| (1 <<< (a3 &&& 31)))), some (.int (a3 + 1))] k34_34 rfl rfl rfl (by decide) rfl ?_
      refine q_goto (pc := 37) 4 k34_37 (by decide) ?_
      exact h
set_option maxRecDepth 20000 in
theorem vc35 {X : Nat × (Nat → Int32)} {d : Nat} {M : q_M} {a1 : Int32} {K : Int32 → q_M → Prop} (h : q_Ex X d 35 4 [some (.ref 64), some (.int a1), some (.int 0), some (.int 0)] [] M (q_ri K)) : q_Ci X d 35 [.ref 64, .int a1] M K := by
  show q_Ex X d 35 0 [some (.ref 64), some (.int a1), none, none] [] M (q_ri K)
  refine q_iconst (pc := 0) (v := 0) k35_0 (by decide) ?_
  refine q_istore_n (pc := 1) [some (.ref 64), some (.int a1), some (.int 0), none] k35_1 rfl (by decide) rfl ?_
  refine q_iconst (pc := 2) (v := 0) k35_2 (by decide) ?_
  refine q_istore_n (pc := 3) [some (.ref 64), some (.int a1), some (.int 0), some (.int 0)] k35_3 rfl (by decide) rfl ?_
  exact h
set_option maxRecDepth 20000 in
theorem vc35_p4 {X : Nat × (Nat → Int32)} {d : Nat} {M : q_M} {a1 a2 a3 : Int32} {K : Int32 → q_M → Prop} (h : ((9 ≤ a3) → (K a2 M)) ∧ ((¬ 9 ≤ a3) → (((((a1 >>> (a3 &&& 31)) &&& 1) = 0) → (q_Ex X d 35 4 [some (.ref 64), some (.int a1), some (.int a2), some (.int (a3 + 1))] [] M (q_ri K))) ∧ ((¬ ((a1 >>> (a3 &&& 31)) &&& 1) = 0) → (vp_in a3 9 ∧ (q_Ex X d 35 4 [some (.ref 64), some (.int a1), some (.int (a2 + (M 66 (Int32.toNatClampNeg a3)))), some (.int (a3 + 1))] [] M (q_ri K))))))) : q_Ex X d 35 4 [some (.ref 64), some (.int a1), some (.int a2), some (.int a3)] [] M (q_ri K) := by
  refine q_iload_n (pc := 4) k35_4 rfl ?_
  refine q_getsN (pc := 5) k35_5 (j := 0) (by decide) fs35_15 ?_
  refine q_rlen (pc := 8) (j := 0) (v := 9) k35_8 (by decide) rfl ?_
  refine q_icmp_ge (pc := 9) 35 k35_9 (by decide) (fun g => ?_) (fun g => ?_)
  · replace h := h.1 g
    refine q_iload_n (pc := 35) k35_35 rfl ?_
    exact q_ireturn (pc := 36) k35_36 rfl ⟨_, rfl, h⟩
  · replace h := h.2 g
    refine q_iload_n (pc := 12) k35_12 rfl ?_
    refine q_iload_n (pc := 13) k35_13 rfl ?_
    refine q_ishr (pc := 14) k35_14 ?_
    refine q_iconst (pc := 15) (v := 1) k35_15 (by decide) ?_
    refine q_iand (pc := 16) k35_16 ?_
    refine q_if_eq (pc := 17) 29 k35_17 (by decide) (fun g => ?_) (fun g => ?_)
    · replace h := h.1 g
      refine q_iinc (pc := 29) (v := a3 + 1) [some (.ref 64), some (.int a1), some (.int a2), some (.int (a3 + 1))] k35_29 rfl rfl rfl (by decide) rfl ?_
      refine q_goto (pc := 32) 4 k35_32 (by decide) ?_
      exact h
    · replace h := h.2 g
      refine q_iload_n (pc := 20) k35_20 rfl ?_
      refine q_aload_n (pc := 21) k35_21 rfl ?_
      refine q_getR (pc := 22) k35_22 fg35_18 rfl rfl ?_
      refine q_iload_n (pc := 25) k35_25 rfl ?_
      refine q_ialdv (pc := 26) (v := M 66 (Int32.toNatClampNeg a3)) k35_26 rfl h.1 rfl ?_
      replace h := h.2
      refine q_iadd (pc := 27) k35_27 ?_
      refine q_istore_n (pc := 28) [some (.ref 64), some (.int a1), some (.int (a2 + (M 66 (Int32.toNatClampNeg a3)))), some (.int a3)] k35_28 rfl (by decide) rfl ?_
      refine q_iinc (pc := 29) (v := a3 + 1) [some (.ref 64), some (.int a1), some (.int (a2 + (M 66 (Int32.toNatClampNeg a3)))), some (.int (a3 + 1))] k35_29 rfl rfl rfl (by decide) rfl ?_
      refine q_goto (pc := 32) 4 k35_32 (by decide) ?_
      exact h
set_option maxRecDepth 20000 in
theorem vc36 {X : Nat × (Nat → Int32)} {d : Nat} {M : q_M} {a1 : Int32} {K : Int32 → q_M → Prop} (h : q_Ex X d 36 5 [some (.ref 64), some (.int a1), some (.int (-9)), some (.int 0), none] [] M (q_ri K)) : q_Ci X d 36 [.ref 64, .int a1] M K := by
  show q_Ex X d 36 0 [some (.ref 64), some (.int a1), none, none, none] [] M (q_ri K)
  refine q_bipush (pc := 0) (v := (-9)) k36_0 (by decide) ?_
  refine q_istore_n (pc := 2) [some (.ref 64), some (.int a1), some (.int (-9)), none, none] k36_2 rfl (by decide) rfl ?_
  refine q_iconst (pc := 3) (v := 0) k36_3 (by decide) ?_
  refine q_istore_n (pc := 4) [some (.ref 64), some (.int a1), some (.int (-9)), some (.int 0), none] k36_4 rfl (by decide) rfl ?_
  exact h
set_option maxRecDepth 20000 in
theorem vc36_p5 {X : Nat × (Nat → Int32)} {d : Nat} {M : q_M} {a1 a2 a3 : Int32} {K : Int32 → q_M → Prop} (h : ((9 ≤ a3) → (K a2 M)) ∧ ((¬ 9 ≤ a3) → (((((a1 >>> (a3 &&& 31)) &&& 1) = 0) → (q_Ex X d 36 5 [some (.ref 64), some (.int a1), some (.int a2), some (.int (a3 + 1)), none] [] M (q_ri K))) ∧ ((¬ ((a1 >>> (a3 &&& 31)) &&& 1) = 0) → (vp_in a3 9 ∧ ((((M 66 (Int32.toNatClampNeg a3)) ≤ 0) → (q_Ex X d 36 5 [some (.ref 64), some (.int a1), some (.int a2), some (.int (a3 + 1)), none] [] M (q_ri K))) ∧ ((¬ (M 66 (Int32.toNatClampNeg a3)) ≤ 0) → (((a2 = (-9)) → (vp_in a3 9 ∧ (q_Ex X d 36 5 [some (.ref 64), some (.int a1), some (.int (M 67 (Int32.toNatClampNeg a3))), some (.int (a3 + 1)), none] [] M (q_ri K)))) ∧ ((¬ a2 = (-9)) → (vp_in a3 9 ∧ (((a2 ≤ (M 67 (Int32.toNatClampNeg a3))) → (q_Ex X d 36 5 [some (.ref 64), some (.int a1), some (.int a2), some (.int (a3 + 1)), none] [] M (q_ri K))) ∧ ((¬ a2 ≤ (M 67 (Int32.toNatClampNeg a3))) → (vp_in a3 9 ∧ (q_Ex X d 36 5 [some (.ref 64), some (.int a1), some (.int (M 67 (Int32.toNatClampNeg a3))), some (.int (a3 + 1)), none] [] M (q_ri K))))))))))))))) : q_Ex X d 36 5 [some (.ref 64), some (.int a1), some (.int a2), some (.int a3), none] [] M (q_ri K) := by
  refine q_iload_n (pc := 5) k36_5 rfl ?_
  refine q_getsN (pc := 6) k36_6 (j := 0) (by decide) fs36_15 ?_
  refine q_rlen (pc := 9) (j := 0) (v := 9) k36_9 (by decide) rfl ?_
  refine q_icmp_ge (pc := 10) 71 k36_10 (by decide) (fun g => ?_) (fun g => ?_)
  · replace h := h.1 g
    refine q_iload_n (pc := 71) k36_71 rfl ?_
    exact q_ireturn (pc := 72) k36_72 rfl ⟨_, rfl, h⟩
  · replace h := h.2 g
    refine q_iload_n (pc := 13) k36_13 rfl ?_
    refine q_iload_n (pc := 14) k36_14 rfl ?_
    refine q_ishr (pc := 15) k36_15 ?_
    refine q_iconst (pc := 16) (v := 1) k36_16 (by decide) ?_
    refine q_iand (pc := 17) k36_17 ?_
    refine q_if_eq (pc := 18) 34 k36_18 (by decide) (fun g => ?_) (fun g => ?_)
    · replace h := h.1 g
      refine q_iconst (pc := 34) (v := 0) k36_34 (by decide) ?_
      refine q_istore (pc := 35) [some (.ref 64), some (.int a1), some (.int a2), some (.int a3), some (.int 0)] k36_35 rfl (by decide) rfl ?_
      refine q_iload (pc := 37) k36_37 rfl ?_
      refine q_if_eq (pc := 39) 65 k36_39 (by decide) (fun _ => ?_) (fun g => absurd g (by decide))
      refine q_iinc (pc := 65) (v := a3 + 1) [some (.ref 64), some (.int a1), some (.int a2), some (.int (a3 + 1)), some (.int 0)] k36_65 rfl rfl rfl (by decide) rfl ?_
      refine q_goto (pc := 68) 5 k36_68 (by decide) ?_
      exact q_forget [some (.ref 64), some (.int a1), some (.int a2), some (.int (a3 + 1)), none] (q_subOk (And.intro rfl (And.intro rfl (And.intro rfl (And.intro rfl (trivial)))))) h
    · replace h := h.2 g
      refine q_aload_n (pc := 21) k36_21 rfl ?_
      refine q_getR (pc := 22) k36_22 fg36_18 rfl rfl ?_
      refine q_iload_n (pc := 25) k36_25 rfl ?_
      refine q_ialdv (pc := 26) (v := M 66 (Int32.toNatClampNeg a3)) k36_26 rfl h.1 rfl ?_
      replace h := h.2
      refine q_if_le (pc := 27) 34 k36_27 (by decide) (fun g => ?_) (fun g => ?_)
      · replace h := h.1 g
        refine q_iconst (pc := 34) (v := 0) k36_34 (by decide) ?_
        refine q_istore (pc := 35) [some (.ref 64), some (.int a1), some (.int a2), some (.int a3), some (.int 0)] k36_35 rfl (by decide) rfl ?_
        refine q_iload (pc := 37) k36_37 rfl ?_
        refine q_if_eq (pc := 39) 65 k36_39 (by decide) (fun _ => ?_) (fun g => absurd g (by decide))
        refine q_iinc (pc := 65) (v := a3 + 1) [some (.ref 64), some (.int a1), some (.int a2), some (.int (a3 + 1)), some (.int 0)] k36_65 rfl rfl rfl (by decide) rfl ?_
        refine q_goto (pc := 68) 5 k36_68 (by decide) ?_
        exact q_forget [some (.ref 64), some (.int a1), some (.int a2), some (.int (a3 + 1)), none] (q_subOk (And.intro rfl (And.intro rfl (And.intro rfl (And.intro rfl (trivial)))))) h
      · replace h := h.2 g
        refine q_iconst (pc := 30) (v := 1) k36_30 (by decide) ?_
        refine q_goto (pc := 31) 35 k36_31 (by decide) ?_
        refine q_istore (pc := 35) [some (.ref 64), some (.int a1), some (.int a2), some (.int a3), some (.int 1)] k36_35 rfl (by decide) rfl ?_
        refine q_iload (pc := 37) k36_37 rfl ?_
        refine q_if_eq (pc := 39) 65 k36_39 (by decide) (fun g => absurd g (by decide)) (fun _ => ?_)
        refine q_iload_n (pc := 42) k36_42 rfl ?_
        refine q_bipush (pc := 43) (v := (-9)) k36_43 (by decide) ?_
        refine q_icmp_eq (pc := 45) 58 k36_45 (by decide) (fun g => ?_) (fun g => ?_)
        · replace h := h.1 g
          refine q_aload_n (pc := 58) k36_58 rfl ?_
          refine q_getR (pc := 59) k36_59 fg36_21 rfl rfl ?_
          refine q_iload_n (pc := 62) k36_62 rfl ?_
          refine q_ialdv (pc := 63) (v := M 67 (Int32.toNatClampNeg a3)) k36_63 rfl h.1 rfl ?_
          replace h := h.2
          refine q_istore_n (pc := 64) [some (.ref 64), some (.int a1), some (.int (M 67 (Int32.toNatClampNeg a3))), some (.int a3), some (.int 1)] k36_64 rfl (by decide) rfl ?_
          refine q_iinc (pc := 65) (v := a3 + 1) [some (.ref 64), some (.int a1), some (.int (M 67 (Int32.toNatClampNeg a3))), some (.int (a3 + 1)), some (.int 1)] k36_65 rfl rfl rfl (by decide) rfl ?_
          refine q_goto (pc := 68) 5 k36_68 (by decide) ?_
          exact q_forget [some (.ref 64), some (.int a1), some (.int (M 67 (Int32.toNatClampNeg a3))), some (.int (a3 + 1)), none] (q_subOk (And.intro rfl (And.intro rfl (And.intro rfl (And.intro rfl (trivial)))))) h
        · replace h := h.2 g
          refine q_aload_n (pc := 48) k36_48 rfl ?_
          refine q_getR (pc := 49) k36_49 fg36_21 rfl rfl ?_
          refine q_iload_n (pc := 52) k36_52 rfl ?_
          refine q_ialdv (pc := 53) (v := M 67 (Int32.toNatClampNeg a3)) k36_53 rfl h.1 rfl ?_
          replace h := h.2
          refine q_iload_n (pc := 54) k36_54 rfl ?_
          refine q_icmp_ge (pc := 55) 65 k36_55 (by decide) (fun g => ?_) (fun g => ?_)
          · replace h := h.1 g
            refine q_iinc (pc := 65) (v := a3 + 1) [some (.ref 64), some (.int a1), some (.int a2), some (.int (a3 + 1)), some (.int 1)] k36_65 rfl rfl rfl (by decide) rfl ?_
            refine q_goto (pc := 68) 5 k36_68 (by decide) ?_
            exact q_forget [some (.ref 64), some (.int a1), some (.int a2), some (.int (a3 + 1)), none] (q_subOk (And.intro rfl (And.intro rfl (And.intro rfl (And.intro rfl (trivial)))))) h
          · replace h := h.2 g
            refine q_aload_n (pc := 58) k36_58 rfl ?_
            refine q_getR (pc := 59) k36_59 fg36_21 rfl rfl ?_
            refine q_iload_n (pc := 62) k36_62 rfl ?_
            refine q_ialdv (pc := 63) (v := M 67 (Int32.toNatClampNeg a3)) k36_63 rfl h.1 rfl ?_
            replace h := h.2
            refine q_istore_n (pc := 64) [some (.ref 64), some (.int a1), some (.int (M 67 (Int32.toNatClampNeg a3))), some (.int a3), some (.int 1)] k36_64 rfl (by decide) rfl ?_
            refine q_iinc (pc := 65) (v := a3 + 1) [some (.ref 64), some (.int a1), some (.int (M 67 (Int32.toNatClampNeg a3))), some (.int (a3 + 1)), some (.int 1)] k36_65 rfl rfl rfl (by decide) rfl ?_
            refine q_goto (pc := 68) 5 k36_68 (by decide) ?_
            exact q_forget [some (.ref 64), some (.int a1), some (.int (M 67 (Int32.toNatClampNeg a3))), some (.int (a3 + 1)), none] (q_subOk (And.intro rfl (And.intro rfl (And.intro rfl (And.intro rfl (trivial)))))) h
set_option maxRecDepth 20000 in
theorem vc37 {X : Nat × (Nat → Int32)} {d : Nat} {M : q_M} {a1 a2 : Int32} {K : Int32 → q_M → Prop} (h : q_Ex X d 37 5 [some (.ref 64), some (.int a1), some (.int a2), some (.int 0), some (.int 0)] [] M (q_ri K)) : q_Ci X d 37 [.ref 64, .int a1, .int a2] M K := by
  show q_Ex X d 37 0 [some (.ref 64), some (.int a1), some (.int a2), none, none] [] M (q_ri K)
  refine q_iconst (pc := 0) (v := 0) k37_0 (by decide) ?_
  refine q_istore_n (pc := 1) [some (.ref 64), some (.int a1), some (.int a2), some (.int 0), none] k37_1 rfl (by decide) rfl ?_
  refine q_iconst (pc := 2) (v := 0) k37_2 (by decide) ?_
  refine q_istore (pc := 3) [some (.ref 64), some (.int a1), some (.int a2), some (.int 0), some (.int 0)] k37_3 rfl (by decide) rfl ?_
  exact h
set_option maxRecDepth 20000 in
theorem vc37_p5 {X : Nat × (Nat → Int32)} {d : Nat} (hd : 0 < d) {M : q_M} {a1 a2 a3 a4 : Int32} {K : Int32 → q_M → Prop} (h : ((9 ≤ a4) → (K a3 M)) ∧ ((¬ 9 ≤ a4) → (q_Ci X (d - 1) 23 [.ref 11, .int a1] M (fun r2 M1 => ((r2 = 0) → (K a3 M1)) ∧ ((¬ r2 = 0) → (((((a2 >>> (a4 &&& 31)) &&& 1) = 0) → (q_Ex X d 37 5 [some (.ref 64), some (.int a1), some (.int a2), some (.int a3), some (.int (a4 + 1))] [] M1 (q_ri K))) ∧ ((¬ ((a2 >>> (a4 &&& 31)) &&& 1) = 0) → (vp_in a4 9 ∧ (vp_in a1 30 ∧ (q_Ex X d 37 5 [some (.ref 64), some (.int a1), some (.int a2), some (.int (a3 + (M1 (69 + Int32.toNatClampNeg a4) (Int32.toNatClampNeg a1)))), some (.int (a4 + 1))] [] M1 (q_ri K))))))))))) : q_Ex X d 37 5 [some (.ref 64), some (.int a1), some (.int a2), some (.int a3), some (.int a4)] [] M (q_ri K) := by
  refine q_iload (pc := 5) k37_5 rfl ?_
  refine q_getsN (pc := 7) k37_7 (j := 0) (by decide) fs37_15 ?_
  refine q_rlen (pc := 10) (j := 0) (v := 9) k37_10 (by decide) rfl ?_
  refine q_icmp_ge (pc := 11) 52 k37_11 (by decide) (fun g => ?_) (fun g => ?_)
  · replace h := h.1 g
    refine q_iload_n (pc := 52) k37_52 rfl ?_
    exact q_ireturn (pc := 53) k37_53 rfl ⟨_, rfl, h⟩
  · replace h := h.2 g
    refine q_aload_n (pc := 14) k37_14 rfl ?_
    refine q_getR (pc := 15) k37_15 fg37_32 rfl rfl ?_
    refine q_iload_n (pc := 18) k37_18 rfl ?_
    refine q_invV (pc := 19) (As := [.int a1]) (st := []) k37_19 lm37_108 ov23 rfl rfl rfl (q_cat rfl) (Nat.le_of_ble_eq_true rfl) hd h ?_
    rintro v M1 ⟨r2, rfl, h⟩
    show q_Ex X d 37 (19 + 3) [some (.ref 64), some (.int a1), some (.int a2), some (.int a3), some (.int a4)] [.int r2] M1 _
    refine q_if_eq (pc := 22) 52 k37_22 (by decide) (fun g => ?_) (fun g => ?_)
    · replace h := h.1 g
      refine q_iload_n (pc := 52) k37_52 rfl ?_
      exact q_ireturn (pc := 53) k37_53 rfl ⟨_, rfl, h⟩
    · replace h := h.2 g
      refine q_iload_n (pc := 25) k37_25 rfl ?_
      refine q_iload (pc := 26) k37_26 rfl ?_
      refine q_ishr (pc := 28) k37_28 ?_
      refine q_iconst (pc := 29) (v := 1) k37_29 (by decide) ?_
      refine q_iand (pc := 30) k37_30 ?_
      refine q_if_eq (pc := 31) 46 k37_31 (by decide) (fun g => ?_) (fun g => ?_)
      · replace h := h.1 g
        refine q_iinc (pc := 46) (v := a4 + 1) [some (.ref 64), some (.int a1), some (.int a2), some (.int a3), some (.int (a4 + 1))] k37_46 rfl rfl rfl (by decide) rfl ?_
        refine q_goto (pc := 49) 5 k37_49 (by decide) ?_
        exact h
      · replace h := h.2 g
        refine q_iload_n (pc := 34) k37_34 rfl ?_
        refine q_aload_n (pc := 35) k37_35 rfl ?_
        refine q_getR (pc := 36) k37_36 fg37_26 rfl rfl ?_
        refine q_iload (pc := 39) k37_39 rfl ?_
        have w3 := h.1
        replace h := h.2
        refine q_aald (pc := 41) k37_41 rfl w3 ?_
        refine q_iload_n (pc := 42) k37_42 rfl ?_
        refine q_ialdv (pc := 43) (v := M1 (69 + Int32.toNatClampNeg a4) (Int32.toNatClampNeg a1)) k37_43 (rw68 w3) h.1 rfl ?_
        replace h := h.2
        refine q_iadd (pc := 44) k37_44 ?_
        refine q_istore_n (pc := 45) [some (.ref 64), some (.int a1), some (.int a2), some (.int (a3 + (M1 (69 + Int32.toNatClampNeg a4) (Int32.toNatClampNeg a1)))), some (.int a4)] k37_45 rfl (by decide) rfl ?_
        refine q_iinc (pc := 46) (v := a4 + 1) [some (.ref 64), some (.int a1), some (.int a2), some (.int (a3 + (M1 (69 + Int32.toNatClampNeg a4) (Int32.toNatClampNeg a1)))), some (.int (a4 + 1))] k37_46 rfl rfl rfl (by decide) rfl ?_
        refine q_goto (pc := 49) 5 k37_49 (by decide) ?_
        exact h
set_option maxRecDepth 20000 in
theorem vc38 {X : Nat × (Nat → Int32)} {d : Nat} {M : q_M} {a1 a2 : Int32} {K : Int32 → q_M → Prop} (h : q_Ex X d 38 5 [some (.ref 64), some (.int a1), some (.int a2), some (.int 0), some (.int 0)] [] M (q_ri K)) : q_Ci X d 38 [.ref 64, .int a1, .int a2] M K := by
  show q_Ex X d 38 0 [some (.ref 64), some (.int a1), some (.int a2), none, none] [] M (q_ri K)
  refine q_iconst (pc := 0) (v := 0) k38_0 (by decide) ?_
  refine q_istore_n (pc := 1) [some (.ref 64), some (.int a1), some (.int a2), some (.int 0), none] k38_1 rfl (by decide) rfl ?_
  refine q_iconst (pc := 2) (v := 0) k38_2 (by decide) ?_
  refine q_istore (pc := 3) [some (.ref 64), some (.int a1), some (.int a2), some (.int 0), some (.int 0)] k38_3 rfl (by decide) rfl ?_
  exact h
set_option maxRecDepth 20000 in
theorem vc38_p5 {X : Nat × (Nat → Int32)} {d : Nat} (hd : 0 < d) {M : q_M} {a1 a2 a3 a4 : Int32} {K : Int32 → q_M → Prop} (h : ((9 ≤ a4) → (K a3 M)) ∧ ((¬ 9 ≤ a4) → (q_Ci X (d - 1) 23 [.ref 11, .int a1] M (fun r2 M1 => ((r2 = 0) → (K a3 M1)) ∧ ((¬ r2 = 0) → (((((a2 >>> (a4 &&& 31)) &&& 1) = 0) → (q_Ex X d 38 5 [some (.ref 64), some (.int a1), some (.int a2), some (.int a3), some (.int (a4 + 1))] [] M1 (q_ri K))) ∧ ((¬ ((a2 >>> (a4 &&& 31)) &&& 1) = 0) → (vp_in a4 9 ∧ (vp_in a1 30 ∧ (q_Ex X d 38 5 [some (.ref 64), some (.int a1), some (.int a2), some (.int (a3 ||| (M1 (79 + Int32.toNatClampNeg a4) (Int32.toNatClampNeg a1)))), some (.int (a4 + 1))] [] M1 (q_ri K))))))))))) : q_Ex X d 38 5 [some (.ref 64), some (.int a1), some (.int a2), some (.int a3), some (.int a4)] [] M (q_ri K) := by
  refine q_iload (pc := 5) k38_5 rfl ?_
  refine q_getsN (pc := 7) k38_7 (j := 0) (by decide) fs38_15 ?_
  refine q_rlen (pc := 10) (j := 0) (v := 9) k38_10 (by decide) rfl ?_
  refine q_icmp_ge (pc := 11) 52 k38_11 (by decide) (fun g => ?_) (fun g => ?_)
  · replace h := h.1 g
    refine q_iload_n (pc := 52) k38_52 rfl ?_
    exact q_ireturn (pc := 53) k38_53 rfl ⟨_, rfl, h⟩
  · replace h := h.2 g
    refine q_aload_n (pc := 14) k38_14 rfl ?_
    refine q_getR (pc := 15) k38_15 fg38_32 rfl rfl ?_
    refine q_iload_n (pc := 18) k38_18 rfl ?_
    refine q_invV (pc := 19) (As := [.int a1]) (st := []) k38_19 lm38_108 ov23 rfl rfl rfl (q_cat rfl) (Nat.le_of_ble_eq_true rfl) hd h ?_
    rintro v M1 ⟨r2, rfl, h⟩
    show q_Ex X d 38 (19 + 3) [some (.ref 64), some (.int a1), some (.int a2), some (.int a3), some (.int a4)] [.int r2] M1 _
    refine q_if_eq (pc := 22) 52 k38_22 (by decide) (fun g => ?_) (fun g => ?_)
    · replace h := h.1 g
      refine q_iload_n (pc := 52) k38_52 rfl ?_
      exact q_ireturn (pc := 53) k38_53 rfl ⟨_, rfl, h⟩
    · replace h := h.2 g
      refine q_iload_n (pc := 25) k38_25 rfl ?_
      refine q_iload (pc := 26) k38_26 rfl ?_
      refine q_ishr (pc := 28) k38_28 ?_
      refine q_iconst (pc := 29) (v := 1) k38_29 (by decide) ?_
      refine q_iand (pc := 30) k38_30 ?_
      refine q_if_eq (pc := 31) 46 k38_31 (by decide) (fun g => ?_) (fun g => ?_)
      · replace h := h.1 g
        refine q_iinc (pc := 46) (v := a4 + 1) [some (.ref 64), some (.int a1), some (.int a2), some (.int a3), some (.int (a4 + 1))] k38_46 rfl rfl rfl (by decide) rfl ?_
        refine q_goto (pc := 49) 5 k38_49 (by decide) ?_
        exact h
      · replace h := h.2 g
        refine q_iload_n (pc := 34) k38_34 rfl ?_
        refine q_aload_n (pc := 35) k38_35 rfl ?_
        refine q_getR (pc := 36) k38_36 fg38_29 rfl rfl ?_
        refine q_iload (pc := 39) k38_39 rfl ?_
        have w3 := h.1
        replace h := h.2
        refine q_aald (pc := 41) k38_41 rfl w3 ?_
        refine q_iload_n (pc := 42) k38_42 rfl ?_
        refine q_ialdv (pc := 43) (v := M1 (79 + Int32.toNatClampNeg a4) (Int32.toNatClampNeg a1)) k38_43 (rw78 w3) h.1 rfl ?_
        replace h := h.2
        refine q_ior (pc := 44) k38_44 ?_
        refine q_istore_n (pc := 45) [some (.ref 64), some (.int a1), some (.int a2), some (.int (a3 ||| (M1 (79 + Int32.toNatClampNeg a4) (Int32.toNatClampNeg a1)))), some (.int a4)] k38_45 rfl (by decide) rfl ?_
        refine q_iinc (pc := 46) (v := a4 + 1) [some (.ref 64), some (.int a1), some (.int a2), some (.int (a3 ||| (M1 (79 + Int32.toNatClampNeg a4) (Int32.toNatClampNeg a1)))), some (.int (a4 + 1))] k38_46 rfl rfl rfl (by decide) rfl ?_
        refine q_goto (pc := 49) 5 k38_49 (by decide) ?_
        exact h
set_option maxRecDepth 20000 in
theorem vc41_44 {X : Nat × (Nat → Int32)} {d : Nat} (hd : 0 < d) {M : q_M} {a1 : Int32} {K : q_M → Prop} (h : q_Ex X d 41 17 [some (.ref 44), none, some (.int 0)] [] (q_set M 44 1 (if (M 11 4) < a1 then (M 11 4) else a1)) (q_rn K)) : q_Cv X d 41 [.ref 44, .int a1] M K := by
  show q_Ex X d 41 0 [some (.ref 44), some (.int a1), none] [] M (q_rn K)
  refine q_aload_n (pc := 0) k41_0 rfl ?_
  refine q_iload_n (pc := 1) k41_1 rfl ?_
  refine q_aload_n (pc := 2) k41_2 rfl ?_
  refine q_getR (pc := 3) k41_3 fg41_23 rfl rfl ?_
  refine q_getIv (pc := 6) (v := M 11 4) k41_6 fg41_27 rfl rfl rfl ?_
  refine q_mmin (pc := 9) k41_9 lx41_33 oc_min (Nat.le_of_ble_eq_true rfl) ?_
  refine q_putI (pc := 12) k41_12 fp41_39 rfl rfl ?_
  refine q_iconst (pc := 15) (v := 0) k41_15 (by decide) ?_
  refine q_istore_n (pc := 16) [some (.ref 44), some (.int a1), some (.int 0)] k41_16 rfl (by decide) rfl ?_
  exact q_forget [some (.ref 44), none, some (.int 0)] (q_subOk (And.intro rfl (And.intro rfl (trivial)))) h
set_option maxRecDepth 20000 in
theorem vc41_44_p17 {X : Nat × (Nat → Int32)} {d : Nat} (hd : 0 < d) {M : q_M} {a2 : Int32} {K : q_M → Prop} (h : (((M 44 1) ≤ a2) → (K M)) ∧ ((¬ (M 44 1) ≤ a2) → (vp_in a2 3 ∧ (q_Ci X (d - 1) 25 [.ref 11, .int a2] (q_set M 45 (Int32.toNatClampNeg a2) 0) (fun r2 M1 => q_Cv X (d - 1) 42 [.ref 44, .int a2, .int r2, .int 0, .int 0] M1 (fun M3 => q_Ex X d 41 17 [some (.ref 44), none, some (.int (a2 + 1))] [] M3 (q_rn K))))))) : q_Ex X d 41 17 [some (.ref 44), none, some (.int a2)] [] M (q_rn K) := by
  refine q_iload_n (pc := 17) k41_17 rfl ?_
  refine q_aload_n (pc := 18) k41_18 rfl ?_
  refine q_getIv (pc := 19) (v := M 44 1) k41_19 fg41_39 rfl rfl rfl ?_
  refine q_icmp_ge (pc := 22) 53 k41_22 (by decide) (fun g => ?_) (fun g => ?_)
  · replace h := h.1 g
    exact q_return (pc := 53) k41_53 rfl ⟨rfl, h⟩
  · replace h := h.2 g
    refine q_aload_n (pc := 25) k41_25 rfl ?_
    refine q_getR (pc := 26) k41_26 fg41_9 rfl rfl ?_
    refine q_iload_n (pc := 29) k41_29 rfl ?_
    refine q_iconst (pc := 30) (v := 0) k41_30 (by decide) ?_
    refine q_iastv (pc := 31) (k := (Int32.toNatClampNeg a2)) k41_31 rfl h.1 rfl ?_
    replace h := h.2
    refine q_aload_n (pc := 32) k41_32 rfl ?_
    refine q_iload_n (pc := 33) k41_33 rfl ?_
    refine q_aload_n (pc := 34) k41_34 rfl ?_
    refine q_getR (pc := 35) k41_35 fg41_23 rfl rfl ?_
    refine q_iload_n (pc := 38) k41_38 rfl ?_
    refine q_invV (pc := 39) (As := [.int a2]) (st := [.int a2, .ref 44]) k41_39 lm41_40 ov25 rfl rfl rfl (q_cat rfl) (Nat.le_of_ble_eq_true rfl) hd h ?_
    rintro v M1 ⟨r2, rfl, h⟩
    show q_Ex X d 41 (39 + 3) [some (.ref 44), none, some (.int a2)] [.int r2, .int a2, .ref 44] M1 _
    refine q_iconst (pc := 42) (v := 0) k41_42 (by decide) ?_
    refine q_iconst (pc := 43) (v := 0) k41_43 (by decide) ?_
    refine q_invV (pc := 44) (As := [.int a2, .int r2, .int 0, .int 0]) (st := []) k41_44 lm41_44 ov42 rfl rfl rfl (q_cat rfl) (Nat.le_of_ble_eq_true rfl) hd h ?_
    rintro v M3 ⟨rfl, h⟩
    show q_Ex X d 41 (44 + 3) [some (.ref 44), none, some (.int a2)] [] M3 _
    refine q_iinc (pc := 47) (v := a2 + 1) [some (.ref 44), none, some (.int (a2 + 1))] k41_47 rfl rfl rfl (by decide) rfl ?_
    refine q_goto (pc := 50) 17 k41_50 (by decide) ?_
    exact h
set_option maxRecDepth 20000 in
theorem vc42_44 {X : Nat × (Nat → Int32)} {d : Nat} {M : q_M} {a1 a2 a3 a4 : Int32} {K : q_M → Prop} (h : ((a2 < 0) → (K M)) ∧ ((¬ a2 < 0) → (((a4 ≤ 10) → (q_Ex X d 42 22 [some (.ref 44), some (.int a1), some (.int a2), none, some (.int a4), some (.int (a3 ||| (1 <<< (a2 &&& 31)))), some (.int 0), none, none] [] M (q_rn K))) ∧ ((¬ a4 ≤ 10) → (K M))))) : q_Cv X d 42 [.ref 44, .int a1, .int a2, .int a3, .int a4] M K := by
  show q_Ex X d 42 0 [some (.ref 44), some (.int a1), some (.int a2), some (.int a3), some (.int a4), none, none, none, none] [] M (q_rn K)
  refine q_iload_n (pc := 0) k42_0 rfl ?_
  refine q_if_lt (pc := 1) 11 k42_1 (by decide) (fun g => ?_) (fun g => ?_)
  · replace h := h.1 g
    exact q_return (pc := 11) k42_11 rfl ⟨rfl, h⟩
  · replace h := h.2 g
    refine q_iload (pc := 4) k42_4 rfl ?_
    refine q_bipush (pc := 6) (v := 10) k42_6 (by decide) ?_
    refine q_icmp_le (pc := 8) 12 k42_8 (by decide) (fun g => ?_) (fun g => ?_)
    · replace h := h.1 g
      refine q_iload_n (pc := 12) k42_12 rfl ?_
      refine q_iconst (pc := 13) (v := 1) k42_13 (by decide) ?_
      refine q_iload_n (pc := 14) k42_14 rfl ?_
      refine q_ishl (pc := 15) k42_15 ?_
      refine q_ior (pc := 16) k42_16 ?_
      refine q_istore (pc := 17) [some (.ref 44), some (.int a1), some (.int a2), some (.int a3), some (.int a4), some (.int (a3 ||| (1 <<< (a2 &&& 31)))), none, none, none] k42_17 rfl (by decide) rfl ?_
      refine q_iconst (pc := 19) (v := 0) k42_19 (by decide) ?_
      refine q_istore (pc := 20) [some (.ref 44), some (.int a1), some (.int a2), some (.int a3), some (.int a4), some (.int (a3 ||| (1 <<< (a2 &&& 31)))), some (.int 0), none, none] k42_20 rfl (by decide) rfl ?_
      exact q_forget [some (.ref 44), some (.int a1), some (.int a2), none, some (.int a4), some (.int (a3 ||| (1 <<< (a2 &&& 31)))), some (.int 0), none, none] (q_subOk (And.intro rfl (And.intro rfl (And.intro rfl (And.intro rfl (And.intro rfl (And.intro rfl (trivial)))))))) h
    · replace h := h.2 g
      exact q_return (pc := 11) k42_11 rfl ⟨rfl, h⟩
set_option maxRecDepth 20000 in
theorem vc42_44_p22 {X : Nat × (Nat → Int32)} {d : Nat} (hd : 0 < d) {M : q_M} {a1 a2 a4 a5 a6 : Int32} {K : q_M → Prop} (h : ((1 < a6) → (K M)) ∧ ((¬ 1 < a6) → (q_Ci X (d - 1) 27 [.ref 11, .int a2, .int a6] M (fun r2 M1 => ((r2 < 0) → (q_Ex X d 42 22 [some (.ref 44), some (.int a1), some (.int a2), none, some (.int a4), some (.int a5), some (.int (a6 + 1)), none, none] [] M1 (q_rn K))) ∧ ((¬ r2 < 0) → (vp_in r2 30 ∧ ((((M1 14 (Int32.toNatClampNeg r2)) < 0) → (q_Cv X (d - 1) 42 [.ref 44, .int a1, .int r2, .int a5, .int (a4 + 1)] M1 (fun M3 => q_Ex X d 42 22 [some (.ref 44), some (.int a1), some (.int a2), none, some (.int a4), some (.int a5), some (.int (a6 + 1)), none, none] [] M3 (q_rn K)))) ∧ ((¬ (M1 14 (Int32.toNatClampNeg r2)) < 0) → (vp_in r2 30 ∧ ((((M1 14 (Int32.toNatClampNeg r2)) < (M1 44 1)) → (vp_in r2 30 ∧ (((¬ (M1 12 (Int32.toNatClampNeg r2)) = 3) → (q_Ex X d 42 22 [some (.ref 44), some (.int a1), some (.int a2), none, some (.int a4), some (.int a5), some (.int (a6 + 1)), none, none] [] M1 (q_rn K))) ∧ (((M1 12 (Int32.toNatClampNeg r2)) = 3) → (vp_in r2 30 ∧ (q_Cv X (d - 1) 43 [.ref 44, .int a1, .int (a5 ||| (1 <<< (r2 &&& 31))), .int (M1 14 (Int32.toNatClampNeg r2))] M1 (fun M4 => q_Ex X d 42 22 [some (.ref 44), some (.int a1), some (.int a2), none, some (.int a4), some (.int a5), some (.int (a6 + 1)), none, none] [] M4 (q_rn K)))))))) ∧ ((¬ (M1 14 (Int32.toNatClampNeg r2)) < (M1 44 1)) → (q_Cv X (d - 1) 42 [.ref 44, .int a1, .int r2, .int a5, .int (a4 + 1)] M1 (fun M5 => q_Ex X d 42 22 [some (.ref 44), some (.int a1), some (.int a2), none, some (.int a4), some (.int a5), some (.int (a6 + 1)), none, none] [] M5 (q_rn K)))))))))))))) : q_Ex X d 42 22 [some (.ref 44), some (.int a1), some (.int a2), none, some (.int a4), some (.int a5), some (.int a6), none, none] [] M (q_rn K) := by
  refine q_iload (pc := 22) k42_22 rfl ?_
  refine q_iconst (pc := 24) (v := 1) k42_24 (by decide) ?_
  refine q_icmp_gt (pc := 25) 145 k42_25 (by decide) (fun g => ?_) (fun g => ?_)
  · replace h := h.1 g
    exact q_return (pc := 145) k42_145 rfl ⟨rfl, h⟩
  · replace h := h.2 g
    refine q_aload_n (pc := 28) k42_28 rfl ?_
    refine q_getR (pc := 29) k42_29 fg42_23 rfl rfl ?_
    refine q_iload_n (pc := 32) k42_32 rfl ?_
    refine q_iload (pc := 33) k42_33 rfl ?_
    refine q_invV (pc := 35) (As := [.int a2, .int a6]) (st := []) k42_35 lm42_48 ov27 rfl rfl rfl (q_cat rfl) (Nat.le_of_ble_eq_true rfl) hd h ?_
    rintro v M1 ⟨r2, rfl, h⟩
    show q_Ex X d 42 (35 + 3) [some (.ref 44), some (.int a1), some (.int a2), none, some (.int a4), some (.int a5), some (.int a6), none, none] [.int r2] M1 _
    refine q_istore (pc := 38) [some (.ref 44), some (.int a1), some (.int a2), none, some (.int a4), some (.int a5), some (.int a6), some (.int r2), none] k42_38 rfl (by decide) rfl ?_
    refine q_iload (pc := 40) k42_40 rfl ?_
    refine q_if_lt (pc := 42) 139 k42_42 (by decide) (fun g => ?_) (fun g => ?_)
    · replace h := h.1 g
      refine q_iinc (pc := 139) (v := a6 + 1) [some (.ref 44), some (.int a1), some (.int a2), none, some (.int a4), some (.int a5), some (.int (a6 + 1)), some (.int r2), none] k42_139 rfl rfl rfl (by decide) rfl ?_
      refine q_goto (pc := 142) 22 k42_142 (by decide) ?_
      exact q_forget [some (.ref 44), some (.int a1), some (.int a2), none, some (.int a4), some (.int a5), some (.int (a6 + 1)), none, none] (q_subOk (And.intro rfl (And.intro rfl (And.intro rfl (And.intro rfl (And.intro rfl (And.intro rfl (trivial)))))))) h
    · replace h := h.2 g
      refine q_aload_n (pc := 45) k42_45 rfl ?_
      refine q_getR (pc := 46) k42_46 fg42_23 rfl rfl ?_
      refine q_getR (pc := 49) k42_49 fg42_51 rfl rfl ?_
      refine q_iload (pc := 52) k42_52 rfl ?_
      refine q_ialdv (pc := 54) (v := M1 14 (Int32.toNatClampNeg r2)) k42_54 rfl h.1 rfl ?_
      replace h := h.2
      refine q_if_lt (pc := 55) 75 k42_55 (by decide) (fun g => ?_) (fun g => ?_)
      · replace h := h.1 g
        refine q_iconst (pc := 75) (v := 1) k42_75 (by decide) ?_
        refine q_goto (pc := 76) 80 k42_76 (by decide) ?_
        refine q_istore (pc := 80) [some (.ref 44), some (.int a1), some (.int a2), none, some (.int a4), some (.int a5), some (.int a6), some (.int r2), some (.int 1)] k42_80 rfl (by decide) rfl ?_
        refine q_iload (pc := 82) k42_82 rfl ?_
        refine q_if_eq (pc := 84) 103 k42_84 (by decide) (fun g => absurd g (by decide)) (fun _ => ?_)
        refine q_aload_n (pc := 87) k42_87 rfl ?_
        refine q_iload_n (pc := 88) k42_88 rfl ?_
        refine q_iload (pc := 89) k42_89 rfl ?_
        refine q_iload (pc := 91) k42_91 rfl ?_
        refine q_iload (pc := 93) k42_93 rfl ?_
        refine q_iconst (pc := 95) (v := 1) k42_95 (by decide) ?_
        refine q_iadd (pc := 96) k42_96 ?_
        refine q_invV (pc := 97) (As := [.int a1, .int r2, .int a5, .int (a4 + 1)]) (st := []) k42_97 lm42_44 ov42 rfl rfl rfl (q_cat rfl) (Nat.le_of_ble_eq_true rfl) hd h ?_
        rintro v M3 ⟨rfl, h⟩
        show q_Ex X d 42 (97 + 3) [some (.ref 44), some (.int a1), some (.int a2), none, some (.int a4), some (.int a5), some (.int a6), some (.int r2), some (.int 1)] [] M3 _
        refine q_goto (pc := 100) 139 k42_100 (by decide) ?_
        refine q_iinc (pc := 139) (v := a6 + 1) [some (.ref 44), some (.int a1), some (.int a2), none, some (.int a4), some (.int a5), some (.int (a6 + 1)), some (.int r2), some (.int 1)] k42_139 rfl rfl rfl (by decide) rfl ?_
        refine q_goto (pc := 142) 22 k42_142 (by decide) ?_
        exact q_forget [some (.ref 44), some (.int a1), some (.int a2), none, some (.int a4), some (.int a5), some (.int (a6 + 1)), none, none] (q_subOk (And.intro rfl (And.intro rfl (And.intro rfl (And.intro rfl (And.intro rfl (And.intro rfl (trivial)))))))) h
      · replace h := h.2 g
        refine q_aload_n (pc := 58) k42_58 rfl ?_
        refine q_getR (pc := 59) k42_59 fg42_23 rfl rfl ?_
        refine q_getR (pc := 62) k42_62 fg42_51 rfl rfl ?_
        refine q_iload (pc := 65) k42_65 rfl ?_
        refine q_ialdv (pc := 67) (v := M1 14 (Int32.toNatClampNeg r2)) k42_67 rfl h.1 rfl ?_
        replace h := h.2
        refine q_aload_n (pc := 68) k42_68 rfl ?_
        refine q_getIv (pc := 69) (v := M1 44 1) k42_69 fg42_39 rfl rfl rfl ?_
        refine q_icmp_lt (pc := 72) 79 k42_72 (by decide) (fun g => ?_) (fun g => ?_)
        · replace h := h.1 g
          refine q_iconst (pc := 79) (v := 0) k42_79 (by decide) ?_
          refine q_istore (pc := 80) [some (.ref 44), some (.int a1), some (.int a2), none, some (.int a4), some (.int a5), some (.int a6), some (.int r2), some (.int 0)] k42_80 rfl (by decide) rfl ?_
          refine q_iload (pc := 82) k42_82 rfl ?_
          refine q_if_eq (pc := 84) 103 k42_84 (by decide) (fun _ => ?_) (fun g => absurd g (by decide))
          refine q_aload_n (pc := 103) k42_103 rfl ?_
          refine q_getR (pc := 104) k42_104 fg42_23 rfl rfl ?_
          refine q_getR (pc := 107) k42_107 fg42_54 rfl rfl ?_
          refine q_iload (pc := 110) k42_110 rfl ?_
          refine q_ialdv (pc := 112) (v := M1 12 (Int32.toNatClampNeg r2)) k42_112 rfl h.1 rfl ?_
          replace h := h.2
          refine q_iconst (pc := 113) (v := 3) k42_113 (by decide) ?_
          refine q_icmp_ne (pc := 114) 139 k42_114 (by decide) (fun g => ?_) (fun g => ?_)
          · replace h := h.1 g
            refine q_iinc (pc := 139) (v := a6 + 1) [some (.ref 44), some (.int a1), some (.int a2), none, some (.int a4), some (.int a5), some (.int (a6 + 1)), some (.int r2), some (.int 0)] k42_139 rfl rfl rfl (by decide) rfl ?_
            refine q_goto (pc := 142) 22 k42_142 (by decide) ?_
            exact q_forget [some (.ref 44), some (.int a1), some (.int a2), none, some (.int a4), some (.int a5), some (.int (a6 + 1)), none, none] (q_subOk (And.intro rfl (And.intro rfl (And.intro rfl (And.intro rfl (And.intro rfl (And.intro rfl (trivial)))))))) h
          · replace h := h.2 g
            refine q_aload_n (pc := 117) k42_117 rfl ?_
            refine q_iload_n (pc := 118) k42_118 rfl ?_
            refine q_iload (pc := 119) k42_119 rfl ?_
            refine q_iconst (pc := 121) (v := 1) k42_121 (by decide) ?_
            refine q_iload (pc := 122) k42_122 rfl ?_
            refine q_ishl (pc := 124) k42_124 ?_
            refine q_ior (pc := 125) k42_125 ?_
            refine q_aload_n (pc := 126) k42_126 rfl ?_
            refine q_getR (pc := 127) k42_127 fg42_23 rfl rfl ?_
            refine q_getR (pc := 130) k42_130 fg42_51 rfl rfl ?_
            refine q_iload (pc := 133) k42_133 rfl ?_
            refine q_ialdv (pc := 135) (v := M1 14 (Int32.toNatClampNeg r2)) k42_135 rfl h.1 rfl ?_
            replace h := h.2
            refine q_invV (pc := 136) (As := [.int a1, .int (a5 ||| (1 <<< (r2 &&& 31))), .int (M1 14 (Int32.toNatClampNeg r2))]) (st := []) k42_136 lm42_57 ov43 rfl rfl rfl (q_cat rfl) (Nat.le_of_ble_eq_true rfl) hd h ?_
            rintro v M4 ⟨rfl, h⟩
            show q_Ex X d 42 (136 + 3) [some (.ref 44), some (.int a1), some (.int a2), none, some (.int a4), some (.int a5), some (.int a6), some (.int r2), some (.int 0)] [] M4 _
            refine q_iinc (pc := 139) (v := a6 + 1) [some (.ref 44), some (.int a1), some (.int a2), none, some (.int a4), some (.int a5), some (.int (a6 + 1)), some (.int r2), some (.int 0)] k42_139 rfl rfl rfl (by decide) rfl ?_
            refine q_goto (pc := 142) 22 k42_142 (by decide) ?_
            exact q_forget [some (.ref 44), some (.int a1), some (.int a2), none, some (.int a4), some (.int a5), some (.int (a6 + 1)), none, none] (q_subOk (And.intro rfl (And.intro rfl (And.intro rfl (And.intro rfl (And.intro rfl (And.intro rfl (trivial)))))))) h
        · replace h := h.2 g
          refine q_iconst (pc := 75) (v := 1) k42_75 (by decide) ?_
          refine q_goto (pc := 76) 80 k42_76 (by decide) ?_
          refine q_istore (pc := 80) [some (.ref 44), some (.int a1), some (.int a2), none, some (.int a4), some (.int a5), some (.int a6), some (.int r2), some (.int 1)] k42_80 rfl (by decide) rfl ?_
          refine q_iload (pc := 82) k42_82 rfl ?_
          refine q_if_eq (pc := 84) 103 k42_84 (by decide) (fun g => absurd g (by decide)) (fun _ => ?_)
          refine q_aload_n (pc := 87) k42_87 rfl ?_
          refine q_iload_n (pc := 88) k42_88 rfl ?_
          refine q_iload (pc := 89) k42_89 rfl ?_
          refine q_iload (pc := 91) k42_91 rfl ?_
          refine q_iload (pc := 93) k42_93 rfl ?_
          refine q_iconst (pc := 95) (v := 1) k42_95 (by decide) ?_
          refine q_iadd (pc := 96) k42_96 ?_
          refine q_invV (pc := 97) (As := [.int a1, .int r2, .int a5, .int (a4 + 1)]) (st := []) k42_97 lm42_44 ov42 rfl rfl rfl (q_cat rfl) (Nat.le_of_ble_eq_true rfl) hd h ?_
          rintro v M5 ⟨rfl, h⟩
          show q_Ex X d 42 (97 + 3) [some (.ref 44), some (.int a1), some (.int a2), none, some (.int a4), some (.int a5), some (.int a6), some (.int r2), some (.int 1)] [] M5 _
          refine q_goto (pc := 100) 139 k42_100 (by decide) ?_
          refine q_iinc (pc := 139) (v := a6 + 1) [some (.ref 44), some (.int a1), some (.int a2), none, some (.int a4), some (.int a5), some (.int (a6 + 1)), some (.int r2), some (.int 1)] k42_139 rfl rfl rfl (by decide) rfl ?_
          refine q_goto (pc := 142) 22 k42_142 (by decide) ?_
          exact q_forget [some (.ref 44), some (.int a1), some (.int a2), none, some (.int a4), some (.int a5), some (.int (a6 + 1)), none, none] (q_subOk (And.intro rfl (And.intro rfl (And.intro rfl (And.intro rfl (And.intro rfl (And.intro rfl (trivial)))))))) h
