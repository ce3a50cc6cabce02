set_option maxRecDepth 20000 in
theorem vc109 {X : Nat × (Nat → Int32)} {d : Nat} (hd : 0 < d) {M : q_M} {a1 : Int32} {K : Int32 → q_M → Prop} (h : ((¬ (M 99 0) = 0) → (q_Ci X (d - 1) 108 [.ref 97, .int a1] M (fun r3 M2 => ((r3 = 0) → (q_Ci X (d - 1) 91 [.ref 97, .int (-1)] M2 (fun r6 M5 => K r6 M5))) ∧ ((¬ r3 = 0) → (q_Ci X (d - 1) 107 [.ref 97] M2 (fun r8 M7 => q_Ex X d 109 46 [some (.ref 97), none, none, some (.int r8), some (.int 0)] [] M7 (q_ri K))))))) ∧ (((M 99 0) = 0) → (q_Ci X (d - 1) 91 [.ref 97, .int (-3)] M (fun r10 M9 => K r10 M9)))) : q_Ci X d 109 [.ref 97, .int a1] M K := by
  show q_Ex X d 109 0 [some (.ref 97), some (.int a1), none, none, none] [] M (q_ri K)
  refine q_aload_n (pc := 0) k109_0 rfl ?_
  refine q_getR (pc := 1) k109_1 fg109_13 rfl rfl ?_
  refine q_iconst (pc := 4) (v := 0) k109_4 (by decide) ?_
  refine q_ialdv (pc := 5) (v := M 99 0) k109_5 rfl (q_vin (by decide)) rfl ?_
  refine q_if_ne (pc := 6) 14 k109_6 (by decide) (fun g1 => ?_) (fun g1 => ?_)
  · replace h := h.1 g1
    refine q_aload_n (pc := 14) k109_14 rfl ?_
    refine q_iload_n (pc := 15) k109_15 rfl ?_
    refine q_invV (pc := 16) (As := [.int a1]) (st := []) k109_16 lm109_100 ov108 rfl rfl rfl (q_cat rfl) (Nat.le_of_ble_eq_true rfl) hd h ?_
    rintro v M2 ⟨r3, rfl, h⟩
    show q_Ex X d 109 (16 + 3) [some (.ref 97), some (.int a1), none, none, none] [.int r3] M2 _
    refine q_if_eq (pc := 19) 26 k109_19 (by decide) (fun g4 => ?_) (fun g4 => ?_)
    · replace h := h.1 g4
      refine q_iconst (pc := 26) (v := (-1)) k109_26 (by decide) ?_
      refine q_istore_n (pc := 27) [some (.ref 97), some (.int a1), some (.int (-1)), none, none] k109_27 rfl (by decide) rfl ?_
      refine q_iload_n (pc := 28) k109_28 rfl ?_
      refine q_if_eq (pc := 29) 38 k109_29 (by decide) (fun g => absurd g (by decide)) (fun _ => ?_)
      refine q_aload_n (pc := 32) k109_32 rfl ?_
      refine q_iload_n (pc := 33) k109_33 rfl ?_
      refine q_invV (pc := 34) (As := [.int (-1)]) (st := []) k109_34 lm109_80 ov91 rfl rfl rfl (q_cat rfl) (Nat.le_of_ble_eq_true rfl) hd h ?_
      rintro v M5 ⟨r6, rfl, h⟩
      show q_Ex X d 109 (34 + 3) [some (.ref 97), some (.int a1), some (.int (-1)), none, none] [.int r6] M5 _
      exact q_ireturn (pc := 37) k109_37 rfl ⟨_, rfl, h⟩
    · replace h := h.2 g4
      refine q_iconst (pc := 22) (v := 0) k109_22 (by decide) ?_
      refine q_goto (pc := 23) 27 k109_23 (by decide) ?_
      refine q_istore_n (pc := 27) [some (.ref 97), some (.int a1), some (.int 0), none, none] k109_27 rfl (by decide) rfl ?_
      refine q_iload_n (pc := 28) k109_28 rfl ?_
      refine q_if_eq (pc := 29) 38 k109_29 (by decide) (fun _ => ?_) (fun g => absurd g (by decide))
      refine q_aload_n (pc := 38) k109_38 rfl ?_
      refine q_invV (pc := 39) (As := []) (st := []) k109_39 lm109_103 ov107 rfl rfl rfl (q_cat rfl) (Nat.le_of_ble_eq_true rfl) hd h ?_
      rintro v M7 ⟨r8, rfl, h⟩
      show q_Ex X d 109 (39 + 3) [some (.ref 97), some (.int a1), some (.int 0), none, none] [.int r8] M7 _
      refine q_istore_n (pc := 42) [some (.ref 97), some (.int a1), some (.int 0), some (.int r8), none] k109_42 rfl (by decide) rfl ?_
      refine q_iconst (pc := 43) (v := 0) k109_43 (by decide) ?_
      refine q_istore (pc := 44) [some (.ref 97), some (.int a1), some (.int 0), some (.int r8), some (.int 0)] k109_44 rfl (by decide) rfl ?_
      exact q_forget [some (.ref 97), none, none, some (.int r8), some (.int 0)] (q_subOk (And.intro rfl (And.intro rfl (And.intro rfl (trivial))))) h
  · replace h := h.2 g1
    refine q_bipush (pc := 9) (v := (-3)) k109_9 (by decide) ?_
    refine q_goto (pc := 11) 27 k109_11 (by decide) ?_
    refine q_istore_n (pc := 27) [some (.ref 97), some (.int a1), some (.int (-3)), none, none] k109_27 rfl (by decide) rfl ?_
    refine q_iload_n (pc := 28) k109_28 rfl ?_
    refine q_if_eq (pc := 29) 38 k109_29 (by decide) (fun g => absurd g (by decide)) (fun _ => ?_)
    refine q_aload_n (pc := 32) k109_32 rfl ?_
    refine q_iload_n (pc := 33) k109_33 rfl ?_
    refine q_invV (pc := 34) (As := [.int (-3)]) (st := []) k109_34 lm109_80 ov91 rfl rfl rfl (q_cat rfl) (Nat.le_of_ble_eq_true rfl) hd h ?_
    rintro v M9 ⟨r10, rfl, h⟩
    show q_Ex X d 109 (34 + 3) [some (.ref 97), some (.int a1), some (.int (-3)), none, none] [.int r10] M9 _
    exact q_ireturn (pc := 37) k109_37 rfl ⟨_, rfl, h⟩
set_option maxRecDepth 20000 in
theorem vc109_p46 {X : Nat × (Nat → Int32)} {d : Nat} {M : q_M} {a3 a4 : Int32} {K : Int32 → q_M → Prop} (h : (((M 99 2) ≤ a4) → (K a3 M)) ∧ ((¬ (M 99 2) ≤ a4) → (vp_in a4 3 ∧ (vp_in ((4 : Int32) + a4) 135 ∧ (q_Ex X d 109 46 [some (.ref 97), none, none, some (.int a3), some (.int (a4 + 1))] [] (q_set M 99 (Int32.toNatClampNeg ((4 : Int32) + a4)) (M 103 (Int32.toNatClampNeg a4))) (q_ri K)))))) : q_Ex X d 109 46 [some (.ref 97), none, none, some (.int a3), some (.int a4)] [] M (q_ri K) := by
  refine q_iload (pc := 46) k109_46 rfl ?_
  refine q_aload_n (pc := 48) k109_48 rfl ?_
  refine q_getR (pc := 49) k109_49 fg109_13 rfl rfl ?_
  refine q_iconst (pc := 52) (v := 2) k109_52 (by decide) ?_
  refine q_ialdv (pc := 53) (v := M 99 2) k109_53 rfl (q_vin (by decide)) rfl ?_
  refine q_icmp_ge (pc := 54) 79 k109_54 (by decide) (fun g1 => ?_) (fun g1 => ?_)
  · replace h := h.1 g1
    refine q_iload_n (pc := 79) k109_79 rfl ?_
    exact q_ireturn (pc := 80) k109_80 rfl ⟨_, rfl, h⟩
  · replace h := h.2 g1
    refine q_aload_n (pc := 57) k109_57 rfl ?_
    refine q_getR (pc := 58) k109_58 fg109_13 rfl rfl ?_
    refine q_iconst (pc := 61) (v := 4) k109_61 (by decide) ?_
    refine q_iload (pc := 62) k109_62 rfl ?_
    refine q_iadd (pc := 64) k109_64 ?_
    refine q_aload_n (pc := 65) k109_65 rfl ?_
    refine q_getR (pc := 66) k109_66 fg109_25 rfl rfl ?_
    refine q_iload (pc := 69) k109_69 rfl ?_
    refine q_ialdv (pc := 71) (v := M 103 (Int32.toNatClampNeg a4)) k109_71 rfl h.1 rfl ?_
    replace h := h.2
    refine q_iastv (pc := 72) (k := (Int32.toNatClampNeg ((4 : Int32) + a4))) k109_72 rfl h.1 rfl ?_
    replace h := h.2
    refine q_iinc (pc := 73) (v := a4 + 1) [some (.ref 97), none, none, some (.int a3), some (.int (a4 + 1))] k109_73 rfl rfl rfl (by decide) rfl ?_
    refine q_goto (pc := 76) 46 k109_76 (by decide) ?_
    exact h
set_option maxRecDepth 20000 in
theorem vc110 {X : Nat × (Nat → Int32)} {d : Nat} {M : q_M} {a1 a2 : Int32} {K : Int32 → q_M → Prop} (h : q_Ex X d 110 2 [some (.ref 97), some (.int a1), some (.int a2), some (.int 0)] [] M (q_ri K)) : q_Ci X d 110 [.ref 97, .int a1, .int a2] M K := by
  show q_Ex X d 110 0 [some (.ref 97), some (.int a1), some (.int a2), none] [] M (q_ri K)
  refine q_iconst (pc := 0) (v := 0) k110_0 (by decide) ?_
  refine q_istore_n (pc := 1) [some (.ref 97), some (.int a1), some (.int a2), some (.int 0)] k110_1 rfl (by decide) rfl ?_
  exact h
set_option maxRecDepth 20000 in
theorem vc110_p2 {X : Nat × (Nat → Int32)} {d : Nat} (hd : 0 < d) {M : q_M} {a1 a2 a3 : Int32} {K : Int32 → q_M → Prop} (h : q_Ci X (d - 1) 98 [.ref 97, .int a3] M (fun r2 M1 => ((¬ r2 = a1) → (q_Ex X d 110 2 [some (.ref 97), some (.int a1), some (.int a2), some (.int (a3 + 1))] [] M1 (q_ri K))) ∧ ((r2 = a1) → (q_Ci X (d - 1) 100 [.ref 97, .int a3] M1 (fun r5 M4 => ((r5 = a2) → (K a3 M4)) ∧ ((¬ r5 = a2) → (q_Ex X d 110 2 [some (.ref 97), some (.int a1), some (.int a2), some (.int (a3 + 1))] [] M4 (q_ri K)))))))) : q_Ex X d 110 2 [some (.ref 97), some (.int a1), some (.int a2), some (.int a3)] [] M (q_ri K) := by
  refine q_aload_n (pc := 2) k110_2 rfl ?_
  refine q_iload_n (pc := 3) k110_3 rfl ?_
  refine q_invV (pc := 4) (As := [.int a3]) (st := []) k110_4 lm110_106 ov98 rfl rfl rfl (q_cat rfl) (Nat.le_of_ble_eq_true rfl) hd h ?_
  rintro v M1 ⟨r2, rfl, h⟩
  show q_Ex X d 110 (4 + 3) [some (.ref 97), some (.int a1), some (.int a2), some (.int a3)] [.int r2] M1 _
  refine q_iload_n (pc := 7) k110_7 rfl ?_
  refine q_icmp_ne (pc := 8) 20 k110_8 (by decide) (fun g3 => ?_) (fun g3 => ?_)
  · replace h := h.1 g3
    refine q_iinc (pc := 20) (v := a3 + 1) [some (.ref 97), some (.int a1), some (.int a2), some (.int (a3 + 1))] k110_20 rfl rfl rfl (by decide) rfl ?_
    refine q_goto (pc := 23) 2 k110_23 (by decide) ?_
    exact h
  · replace h := h.2 g3
    refine q_aload_n (pc := 11) k110_11 rfl ?_
    refine q_iload_n (pc := 12) k110_12 rfl ?_
    refine q_invV (pc := 13) (As := [.int a3]) (st := []) k110_13 lm110_109 ov100 rfl rfl rfl (q_cat rfl) (Nat.le_of_ble_eq_true rfl) hd h ?_
    rintro v M4 ⟨r5, rfl, h⟩
    show q_Ex X d 110 (13 + 3) [some (.ref 97), some (.int a1), some (.int a2), some (.int a3)] [.int r5] M4 _
    refine q_iload_n (pc := 16) k110_16 rfl ?_
    refine q_icmp_eq (pc := 17) 26 k110_17 (by decide) (fun g6 => ?_) (fun g6 => ?_)
    · replace h := h.1 g6
      refine q_iload_n (pc := 26) k110_26 rfl ?_
      exact q_ireturn (pc := 27) k110_27 rfl ⟨_, rfl, h⟩
    · replace h := h.2 g6
      refine q_iinc (pc := 20) (v := a3 + 1) [some (.ref 97), some (.int a1), some (.int a2), some (.int (a3 + 1))] k110_20 rfl rfl rfl (by decide) rfl ?_
      refine q_goto (pc := 23) 2 k110_23 (by decide) ?_
      exact h
set_option maxRecDepth 20000 in
theorem vc111 {X : Nat × (Nat → Int32)} {d : Nat} (hd : 0 < d) {M : q_M} {a1 a2 : Int32} {K : Int32 → q_M → Prop} (h : ((¬ a2 = 0) → (¬ (M 99 1) = 0 ∧ (((((M 99 1) - 1) ≤ (a1 - a1 / (M 99 1) * (M 99 1))) → (K (-9) M)) ∧ ((¬ ((M 99 1) - 1) ≤ (a1 - a1 / (M 99 1) * (M 99 1))) → (q_Ci X (d - 1) 98 [.ref 97, .int (a1 + 1)] M (fun r4 M3 => ((¬ r4 = 1) → (K (a1 + 1) M3)) ∧ ((r4 = 1) → (K (-9) M3)))))))) ∧ ((a2 = 0) → (¬ (M 99 1) = 0 ∧ (((((M 99 0) - 1) ≤ (a1 / (M 99 1))) → (K (-9) M)) ∧ ((¬ ((M 99 0) - 1) ≤ (a1 / (M 99 1))) → (q_Ci X (d - 1) 98 [.ref 97, .int (a1 + (M 99 1))] M (fun r8 M7 => ((¬ r8 = 1) → (K (a1 + (M 99 1)) M7)) ∧ ((r8 = 1) → (K (-9) M7))))))))) : q_Ci X d 111 [.ref 97, .int a1, .int a2] M K := by
  show q_Ex X d 111 0 [some (.ref 97), some (.int a1), some (.int a2), none, none] [] M (q_ri K)
  refine q_iload_n (pc := 0) k111_0 rfl ?_
  refine q_if_ne (pc := 1) 31 k111_1 (by decide) (fun g1 => ?_) (fun g1 => ?_)
  · replace h := h.1 g1
    refine q_iload_n (pc := 31) k111_31 rfl ?_
    refine q_aload_n (pc := 32) k111_32 rfl ?_
    refine q_getR (pc := 33) k111_33 fg111_13 rfl rfl ?_
    refine q_iconst (pc := 36) (v := 1) k111_36 (by decide) ?_
    refine q_ialdv (pc := 37) (v := M 99 1) k111_37 rfl (q_vin (by decide)) rfl ?_
    refine q_irem (pc := 38) k111_38 h.1 ?_
    replace h := h.2
    refine q_aload_n (pc := 39) k111_39 rfl ?_
    refine q_getR (pc := 40) k111_40 fg111_13 rfl rfl ?_
    refine q_iconst (pc := 43) (v := 1) k111_43 (by decide) ?_
    refine q_ialdv (pc := 44) (v := M 99 1) k111_44 rfl (q_vin (by decide)) rfl ?_
    refine q_iconst (pc := 45) (v := 1) k111_45 (by decide) ?_
    refine q_isub (pc := 46) k111_46 ?_
    refine q_icmp_ge (pc := 47) 54 k111_47 (by decide) (fun g2 => ?_) (fun g2 => ?_)
    · replace h := h.1 g2
      refine q_iconst (pc := 54) (v := 0) k111_54 (by decide) ?_
      refine q_istore_n (pc := 55) [some (.ref 97), some (.int a1), some (.int a2), some (.int 0), none] k111_55 rfl (by decide) rfl ?_
      refine q_iload_n (pc := 56) k111_56 rfl ?_
      refine q_if_ne (pc := 57) 63 k111_57 (by decide) (fun g => absurd g (by decide)) (fun _ => ?_)
      refine q_bipush (pc := 60) (v := (-9)) k111_60 (by decide) ?_
      exact q_ireturn (pc := 62) k111_62 rfl ⟨_, rfl, h⟩
    · replace h := h.2 g2
      refine q_iconst (pc := 50) (v := 1) k111_50 (by decide) ?_
      refine q_goto (pc := 51) 55 k111_51 (by decide) ?_
      refine q_istore_n (pc := 55) [some (.ref 97), some (.int a1), some (.int a2), some (.int 1), none] k111_55 rfl (by decide) rfl ?_
      refine q_iload_n (pc := 56) k111_56 rfl ?_
      refine q_if_ne (pc := 57) 63 k111_57 (by decide) (fun _ => ?_) (fun g => absurd g (by decide))
      refine q_iload_n (pc := 63) k111_63 rfl ?_
      refine q_if_ne (pc := 64) 78 k111_64 (by decide) (fun _ => ?_) (fun g => absurd g g1)
      refine q_iload_n (pc := 78) k111_78 rfl ?_
      refine q_iconst (pc := 79) (v := 1) k111_79 (by decide) ?_
      refine q_iadd (pc := 80) k111_80 ?_
      refine q_istore (pc := 81) [some (.ref 97), some (.int a1), some (.int a2), some (.int 1), some (.int (a1 + 1))] k111_81 rfl (by decide) rfl ?_
      refine q_aload_n (pc := 83) k111_83 rfl ?_
      refine q_iload (pc := 84) k111_84 rfl ?_
      refine q_invV (pc := 86) (As := [.int (a1 + 1)]) (st := []) k111_86 lm111_106 ov98 rfl rfl rfl (q_cat rfl) (Nat.le_of_ble_eq_true rfl) hd h ?_
      rintro v M3 ⟨r4, rfl, h⟩
      show q_Ex X d 111 (86 + 3) [some (.ref 97), some (.int a1), some (.int a2), some (.int 1), some (.int (a1 + 1))] [.int r4] M3 _
      refine q_iconst (pc := 89) (v := 1) k111_89 (by decide) ?_
      refine q_icmp_ne (pc := 90) 98 k111_90 (by decide) (fun g5 => ?_) (fun g5 => ?_)
      · replace h := h.1 g5
        refine q_iload (pc := 98) k111_98 rfl ?_
        exact q_ireturn (pc := 100) k111_100 rfl ⟨_, rfl, h⟩
      · replace h := h.2 g5
        refine q_bipush (pc := 93) (v := (-9)) k111_93 (by decide) ?_
        refine q_goto (pc := 95) 100 k111_95 (by decide) ?_
        exact q_ireturn (pc := 100) k111_100 rfl ⟨_, rfl, h⟩
  · replace h := h.2 g1
    refine q_iload_n (pc := 4) k111_4 rfl ?_
    refine q_aload_n (pc := 5) k111_5 rfl ?_
    refine q_getR (pc := 6) k111_6 fg111_13 rfl rfl ?_
    refine q_iconst (pc := 9) (v := 1) k111_9 (by decide) ?_
    refine q_ialdv (pc := 10) (v := M 99 1) k111_10 rfl (q_vin (by decide)) rfl ?_
    refine q_idiv (pc := 11) k111_11 h.1 ?_
    replace h := h.2
    refine q_aload_n (pc := 12) k111_12 rfl ?_
    refine q_getR (pc := 13) k111_13 fg111_13 rfl rfl ?_
    refine q_iconst (pc := 16) (v := 0) k111_16 (by decide) ?_
    refine q_ialdv (pc := 17) (v := M 99 0) k111_17 rfl (q_vin (by decide)) rfl ?_
    refine q_iconst (pc := 18) (v := 1) k111_18 (by decide) ?_
    refine q_isub (pc := 19) k111_19 ?_
    refine q_icmp_ge (pc := 20) 27 k111_20 (by decide) (fun g6 => ?_) (fun g6 => ?_)
    · replace h := h.1 g6
      refine q_iconst (pc := 27) (v := 0) k111_27 (by decide) ?_
      refine q_goto (pc := 28) 55 k111_28 (by decide) ?_
      refine q_istore_n (pc := 55) [some (.ref 97), some (.int a1), some (.int a2), some (.int 0), none] k111_55 rfl (by decide) rfl ?_
      refine q_iload_n (pc := 56) k111_56 rfl ?_
      refine q_if_ne (pc := 57) 63 k111_57 (by decide) (fun g => absurd g (by decide)) (fun _ => ?_)
      refine q_bipush (pc := 60) (v := (-9)) k111_60 (by decide) ?_
      exact q_ireturn (pc := 62) k111_62 rfl ⟨_, rfl, h⟩
    · replace h := h.2 g6
      refine q_iconst (pc := 23) (v := 1) k111_23 (by decide) ?_
      refine q_goto (pc := 24) 55 k111_24 (by decide) ?_
      refine q_istore_n (pc := 55) [some (.ref 97), some (.int a1), some (.int a2), some (.int 1), none] k111_55 rfl (by decide) rfl ?_
      refine q_iload_n (pc := 56) k111_56 rfl ?_
      refine q_if_ne (pc := 57) 63 k111_57 (by decide) (fun _ => ?_) (fun g => absurd g (by decide))
      refine q_iload_n (pc := 63) k111_63 rfl ?_
      refine q_if_ne (pc := 64) 78 k111_64 (by decide) (fun g => absurd g1 g) (fun _ => ?_)
      refine q_iload_n (pc := 67) k111_67 rfl ?_
      refine q_aload_n (pc := 68) k111_68 rfl ?_
      refine q_getR (pc := 69) k111_69 fg111_13 rfl rfl ?_
      refine q_iconst (pc := 72) (v := 1) k111_72 (by decide) ?_
      refine q_ialdv (pc := 73) (v := M 99 1) k111_73 rfl (q_vin (by decide)) rfl ?_
      refine q_iadd (pc := 74) k111_74 ?_
      refine q_goto (pc := 75) 81 k111_75 (by decide) ?_
      refine q_istore (pc := 81) [some (.ref 97), some (.int a1), some (.int a2), some (.int 1), some (.int (a1 + (M 99 1)))] k111_81 rfl (by decide) rfl ?_
      refine q_aload_n (pc := 83) k111_83 rfl ?_
      refine q_iload (pc := 84) k111_84 rfl ?_
      refine q_invV (pc := 86) (As := [.int (a1 + (M 99 1))]) (st := []) k111_86 lm111_106 ov98 rfl rfl rfl (q_cat rfl) (Nat.le_of_ble_eq_true rfl) hd h ?_
      rintro v M7 ⟨r8, rfl, h⟩
      show q_Ex X d 111 (86 + 3) [some (.ref 97), some (.int a1), some (.int a2), some (.int 1), some (.int (a1 + (M 99 1)))] [.int r8] M7 _
      refine q_iconst (pc := 89) (v := 1) k111_89 (by decide) ?_
      refine q_icmp_ne (pc := 90) 98 k111_90 (by decide) (fun g9 => ?_) (fun g9 => ?_)
      · replace h := h.1 g9
        refine q_iload (pc := 98) k111_98 rfl ?_
        exact q_ireturn (pc := 100) k111_100 rfl ⟨_, rfl, h⟩
      · replace h := h.2 g9
        refine q_bipush (pc := 93) (v := (-9)) k111_93 (by decide) ?_
        refine q_goto (pc := 95) 100 k111_95 (by decide) ?_
        exact q_ireturn (pc := 100) k111_100 rfl ⟨_, rfl, h⟩
set_option maxRecDepth 20000 in
theorem vc112 {X : Nat × (Nat → Int32)} {d : Nat} (hd : 0 < d) {M : q_M} {a1 a2 a3 a4 a5 : Int32} {K : q_M → Prop} (h : q_Ci X (d - 1) 98 [.ref 97, .int a2] M (fun r2 M1 => ((¬ r2 = 3) → (((a5 ≤ 0) → (q_Ex X d 112 90 [some (.ref 97), some (.int a1), some (.int a2), some (.int a3), some (.int a4), some (.int a5), some (.int 0), none] [] M1 (q_rn K))) ∧ ((¬ a5 ≤ 0) → (q_Ci X (d - 1) 98 [.ref 97, .int a2] M1 (fun r6 M5 => ((¬ r6 = 2) → (q_Ex X d 112 90 [some (.ref 97), some (.int a1), some (.int a2), some (.int a3), some (.int a4), some (.int a5), some (.int 0), none] [] M5 (q_rn K))) ∧ ((r6 = 2) → (K M5))))))) ∧ ((r2 = 3) → (vp_in a1 3 ∧ (vp_in (((400 : Int32) * a1) + (M1 108 (Int32.toNatClampNeg a1))) 1200 ∧ (vp_in (((400 : Int32) * a1) + (M1 108 (Int32.toNatClampNeg a1))) 1200 ∧ (vp_in (((400 : Int32) * a1) + (M1 108 (Int32.toNatClampNeg a1))) 1200 ∧ (q_Ci X (d - 1) 100 [.ref 97, .int a2] (q_set (q_set (q_set M1 104 (Int32.toNatClampNeg (((400 : Int32) * a1) + (M1 108 (Int32.toNatClampNeg a1)))) a3) 105 (Int32.toNatClampNeg (((400 : Int32) * a1) + (M1 108 (Int32.toNatClampNeg a1)))) a4) 106 (Int32.toNatClampNeg (((400 : Int32) * a1) + (M1 108 (Int32.toNatClampNeg a1)))) a5) (fun r9 M8 => vp_in (((400 : Int32) * a1) + (M1 108 (Int32.toNatClampNeg a1))) 1200 ∧ (vp_in a1 3 ∧ (vp_in a1 3 ∧ (K (q_set (q_set M8 107 (Int32.toNatClampNeg (((400 : Int32) * a1) + (M1 108 (Int32.toNatClampNeg a1)))) r9) 108 (Int32.toNatClampNeg a1) ((M8 108 (Int32.toNatClampNeg a1)) + 1)))))))))))))) : q_Cv X d 112 [.ref 97, .int a1, .int a2, .int a3, .int a4, .int a5] M K := by
  show q_Ex X d 112 0 [some (.ref 97), some (.int a1), some (.int a2), some (.int a3), some (.int a4), some (.int a5), none, none] [] M (q_rn K)
  refine q_aload_n (pc := 0) k112_0 rfl ?_
  refine q_iload_n (pc := 1) k112_1 rfl ?_
  refine q_invV (pc := 2) (As := [.int a2]) (st := []) k112_2 lm112_106 ov98 rfl rfl rfl (q_cat rfl) (Nat.le_of_ble_eq_true rfl) hd h ?_
  rintro v M1 ⟨r2, rfl, h⟩
  show q_Ex X d 112 (2 + 3) [some (.ref 97), some (.int a1), some (.int a2), some (.int a3), some (.int a4), some (.int a5), none, none] [.int r2] M1 _
  refine q_iconst (pc := 5) (v := 3) k112_5 (by decide) ?_
  refine q_icmp_ne (pc := 6) 72 k112_6 (by decide) (fun g3 => ?_) (fun g3 => ?_)
  · replace h := h.1 g3
    refine q_iload (pc := 72) k112_72 rfl ?_
    refine q_if_le (pc := 74) 87 k112_74 (by decide) (fun g4 => ?_) (fun g4 => ?_)
    · replace h := h.1 g4
      refine q_iconst (pc := 87) (v := 0) k112_87 (by decide) ?_
      refine q_istore (pc := 88) [some (.ref 97), some (.int a1), some (.int a2), some (.int a3), some (.int a4), some (.int a5), some (.int 0), none] k112_88 rfl (by decide) rfl ?_
      exact h
    · replace h := h.2 g4
      refine q_aload_n (pc := 77) k112_77 rfl ?_
      refine q_iload_n (pc := 78) k112_78 rfl ?_
      refine q_invV (pc := 79) (As := [.int a2]) (st := []) k112_79 lm112_106 ov98 rfl rfl rfl (q_cat rfl) (Nat.le_of_ble_eq_true rfl) hd h ?_
      rintro v M5 ⟨r6, rfl, h⟩
      show q_Ex X d 112 (79 + 3) [some (.ref 97), some (.int a1), some (.int a2), some (.int a3), some (.int a4), some (.int a5), none, none] [.int r6] M5 _
      refine q_iconst (pc := 82) (v := 2) k112_82 (by decide) ?_
      refine q_icmp_ne (pc := 83) 87 k112_83 (by decide) (fun g7 => ?_) (fun g7 => ?_)
      · replace h := h.1 g7
        refine q_iconst (pc := 87) (v := 0) k112_87 (by decide) ?_
        refine q_istore (pc := 88) [some (.ref 97), some (.int a1), some (.int a2), some (.int a3), some (.int a4), some (.int a5), some (.int 0), none] k112_88 rfl (by decide) rfl ?_
        exact h
      · replace h := h.2 g7
        exact q_return (pc := 86) k112_86 rfl ⟨rfl, h⟩
  · replace h := h.2 g3
    refine q_sipush (pc := 9) (v := 400) k112_9 (by decide) ?_
    refine q_iload_n (pc := 12) k112_12 rfl ?_
    refine q_imul (pc := 13) k112_13 ?_
    refine q_aload_n (pc := 14) k112_14 rfl ?_
    refine q_getR (pc := 15) k112_15 fg112_40 rfl rfl ?_
    refine q_iload_n (pc := 18) k112_18 rfl ?_
    refine q_ialdv (pc := 19) (v := M1 108 (Int32.toNatClampNeg a1)) k112_19 rfl h.1 rfl ?_
    replace h := h.2
    refine q_iadd (pc := 20) k112_20 ?_
    refine q_istore (pc := 21) [some (.ref 97), some (.int a1), some (.int a2), some (.int a3), some (.int a4), some (.int a5), some (.int (((400 : Int32) * a1) + (M1 108 (Int32.toNatClampNeg a1)))), none] k112_21 rfl (by decide) rfl ?_
    refine q_aload_n (pc := 23) k112_23 rfl ?_
    refine q_getR (pc := 24) k112_24 fg112_28 rfl rfl ?_
    refine q_iload (pc := 27) k112_27 rfl ?_
    refine q_iload_n (pc := 29) k112_29 rfl ?_
    refine q_iastv (pc := 30) (k := (Int32.toNatClampNeg (((400 : Int32) * a1) + (M1 108 (Int32.toNatClampNeg a1))))) k112_30 rfl h.1 rfl ?_
    replace h := h.2
    refine q_aload_n (pc := 31) k112_31 rfl ?_
    refine q_getR (pc := 32) k112_32 fg112_31 rfl rfl ?_
    refine q_iload (pc := 35) k112_35 rfl ?_
    refine q_iload (pc := 37) k112_37 rfl ?_
    refine q_iastv (pc := 39) (k := (Int32.toNatClampNeg (((400 : Int32) * a1) + (M1 108 (Int32.toNatClampNeg a1))))) k112_39 rfl h.1 rfl ?_
    replace h := h.2
    refine q_aload_n (pc := 40) k112_40 rfl ?_
    refine q_getR (pc := 41) k112_41 fg112_34 rfl rfl ?_
    refine q_iload (pc := 44) k112_44 rfl ?_
    refine q_iload (pc := 46) k112_46 rfl ?_
    refine q_iastv (pc := 48) (k := (Int32.toNatClampNeg (((400 : Int32) * a1) + (M1 108 (Int32.toNatClampNeg a1))))) k112_48 rfl h.1 rfl ?_
    replace h := h.2
    refine q_aload_n (pc := 49) k112_49 rfl ?_
    refine q_getR (pc := 50) k112_50 fg112_37 rfl rfl ?_
    refine q_iload (pc := 53) k112_53 rfl ?_
    refine q_aload_n (pc := 55) k112_55 rfl ?_
    refine q_iload_n (pc := 56) k112_56 rfl ?_
    refine q_invV (pc := 57) (As := [.int a2]) (st := [.int (((400 : Int32) * a1) + (M1 108 (Int32.toNatClampNeg a1))), .ref 107]) k112_57 lm112_109 ov100 rfl rfl rfl (q_cat rfl) (Nat.le_of_ble_eq_true rfl) hd h ?_
    rintro v M8 ⟨r9, rfl, h⟩
    show q_Ex X d 112 (57 + 3) [some (.ref 97), some (.int a1), some (.int a2), some (.int a3), some (.int a4), some (.int a5), some (.int (((400 : Int32) * a1) + (M1 108 (Int32.toNatClampNeg a1)))), none] [.int r9, .int (((400 : Int32) * a1) + (M1 108 (Int32.toNatClampNeg a1))), .ref 107] M8 _
    refine q_iastv (pc := 60) (k := (Int32.toNatClampNeg (((400 : Int32) * a1) + (M1 108 (Int32.toNatClampNeg a1))))) k112_60 rfl h.1 rfl ?_
    replace h := h.2
    refine q_aload_n (pc := 61) k112_61 rfl ?_
    refine q_getR (pc := 62) k112_62 fg112_40 rfl rfl ?_
    refine q_iload_n (pc := 65) k112_65 rfl ?_
    refine q_dup2 (pc := 66) k112_66 rfl rfl ?_
    refine q_ialdv (pc := 67) (v := M8 108 (Int32.toNatClampNeg a1)) k112_67 rfl h.1 rfl ?_
    replace h := h.2
    refine q_iconst (pc := 68) (v := 1) k112_68 (by decide) ?_
    refine q_iadd (pc := 69) k112_69 ?_
    refine q_iastv (pc := 70) (k := (Int32.toNatClampNeg a1)) k112_70 rfl h.1 rfl ?_
    replace h := h.2
    exact q_return (pc := 71) k112_71 rfl ⟨rfl, h⟩
set_option maxRecDepth 20000 in
theorem vc112_p90 {X : Nat × (Nat → Int32)} {d : Nat} (hd : 0 < d) {M : q_M} {a1 a2 a3 a4 a5 a6 : Int32} {K : q_M → Prop} (h : ((2 ≤ a6) → (K M)) ∧ ((¬ 2 ≤ a6) → (q_Ci X (d - 1) 111 [.ref 97, .int a2, .int a6] M (fun r3 M2 => ((r3 < 0) → (q_Ex X d 112 90 [some (.ref 97), some (.int a1), some (.int a2), some (.int a3), some (.int a4), some (.int a5), some (.int (a6 + 1)), none] [] M2 (q_rn K))) ∧ ((¬ r3 < 0) → (q_Cv X (d - 1) 112 [.ref 97, .int a1, .int r3, .int (a3 ||| ((1 : Int32) <<< (r3 &&& 31))), .int (a4 ||| (a6 <<< (a5 &&& 31))), .int (a5 + 1)] M2 (fun M5 => q_Ex X d 112 90 [some (.ref 97), some (.int a1), some (.int a2), some (.int a3), some (.int a4), some (.int a5), some (.int (a6 + 1)), none] [] M5 (q_rn K)))))))) : q_Ex X d 112 90 [some (.ref 97), some (.int a1), some (.int a2), some (.int a3), some (.int a4), some (.int a5), some (.int a6), none] [] M (q_rn K) := by
  refine q_iload (pc := 90) k112_90 rfl ?_
  refine q_iconst (pc := 92) (v := 2) k112_92 (by decide) ?_
  refine q_icmp_ge (pc := 93) 141 k112_93 (by decide) (fun g1 => ?_) (fun g1 => ?_)
  · replace h := h.1 g1
    exact q_return (pc := 141) k112_141 rfl ⟨rfl, h⟩
  · replace h := h.2 g1
    refine q_aload_n (pc := 96) k112_96 rfl ?_
    refine q_iload_n (pc := 97) k112_97 rfl ?_
    refine q_iload (pc := 98) k112_98 rfl ?_
    refine q_invV (pc := 100) (As := [.int a2, .int a6]) (st := []) k112_100 lm112_112 ov111 rfl rfl rfl (q_cat rfl) (Nat.le_of_ble_eq_true rfl) hd h ?_
    rintro v M2 ⟨r3, rfl, h⟩
    show q_Ex X d 112 (100 + 3) [some (.ref 97), some (.int a1), some (.int a2), some (.int a3), some (.int a4), some (.int a5), some (.int a6), none] [.int r3] M2 _
    refine q_istore (pc := 103) [some (.ref 97), some (.int a1), some (.int a2), some (.int a3), some (.int a4), some (.int a5), some (.int a6), some (.int r3)] k112_103 rfl (by decide) rfl ?_
    refine q_iload (pc := 105) k112_105 rfl ?_
    refine q_if_lt (pc := 107) 135 k112_107 (by decide) (fun g4 => ?_) (fun g4 => ?_)
    · replace h := h.1 g4
      refine q_iinc (pc := 135) (v := a6 + 1) [some (.ref 97), some (.int a1), some (.int a2), some (.int a3), some (.int a4), some (.int a5), some (.int (a6 + 1)), some (.int r3)] k112_135 rfl rfl rfl (by decide) rfl ?_
      refine q_goto (pc := 138) 90 k112_138 (by decide) ?_
      exact q_forget [some (.ref 97), some (.int a1), some (.int a2), some (.int a3), some (.int a4), some (.int a5), some (.int (a6 + 1)), none] (q_subOk (And.intro rfl (And.intro rfl (And.intro rfl (And.intro rfl (And.intro rfl (And.intro rfl (And.intro rfl (trivial))))))))) h
    · replace h := h.2 g4
      refine q_aload_n (pc := 110) k112_110 rfl ?_
      refine q_iload_n (pc := 111) k112_111 rfl ?_
      refine q_iload (pc := 112) k112_112 rfl ?_
      refine q_iload_n (pc := 114) k112_114 rfl ?_
      refine q_iconst (pc := 115) (v := 1) k112_115 (by decide) ?_
      refine q_iload (pc := 116) k112_116 rfl ?_
      refine q_ishl (pc := 118) k112_118 ?_
      refine q_ior (pc := 119) k112_119 ?_
      refine q_iload (pc := 120) k112_120 rfl ?_
      refine q_iload (pc := 122) k112_122 rfl ?_
      refine q_iload (pc := 124) k112_124 rfl ?_
      refine q_ishl (pc := 126) k112_126 ?_
      refine q_ior (pc := 127) k112_127 ?_
      refine q_iload (pc := 128) k112_128 rfl ?_
      refine q_iconst (pc := 130) (v := 1) k112_130 (by decide) ?_
      refine q_iadd (pc := 131) k112_131 ?_
      refine q_invV (pc := 132) (As := [.int a1, .int r3, .int (a3 ||| ((1 : Int32) <<< (r3 &&& 31))), .int (a4 ||| (a6 <<< (a5 &&& 31))), .int (a5 + 1)]) (st := []) k112_132 lm112_116 ov112 rfl rfl rfl (q_cat rfl) (Nat.le_of_ble_eq_true rfl) hd h ?_
      rintro v M5 ⟨rfl, h⟩
      show q_Ex X d 112 (132 + 3) [some (.ref 97), some (.int a1), some (.int a2), some (.int a3), some (.int a4), some (.int a5), some (.int a6), some (.int r3)] [] M5 _
      refine q_iinc (pc := 135) (v := a6 + 1) [some (.ref 97), some (.int a1), some (.int a2), some (.int a3), some (.int a4), some (.int a5), some (.int (a6 + 1)), some (.int r3)] k112_135 rfl rfl rfl (by decide) rfl ?_
      refine q_goto (pc := 138) 90 k112_138 (by decide) ?_
      exact q_forget [some (.ref 97), some (.int a1), some (.int a2), some (.int a3), some (.int a4), some (.int a5), some (.int (a6 + 1)), none] (q_subOk (And.intro rfl (And.intro rfl (And.intro rfl (And.intro rfl (And.intro rfl (And.intro rfl (And.intro rfl (trivial))))))))) h
set_option maxRecDepth 20000 in
theorem vc113 {X : Nat × (Nat → Int32)} {d : Nat} {M : q_M} {K : q_M → Prop} (h : q_Ex X d 113 2 [some (.ref 97), some (.int 0), none] [] M (q_rn K)) : q_Cv X d 113 [.ref 97] M K := by
  show q_Ex X d 113 0 [some (.ref 97), none, none] [] M (q_rn K)
  refine q_iconst (pc := 0) (v := 0) k113_0 (by decide) ?_
  refine q_istore_n (pc := 1) [some (.ref 97), some (.int 0), none] k113_1 rfl (by decide) rfl ?_
  exact h
set_option maxRecDepth 20000 in
theorem vc113_p2 {X : Nat × (Nat → Int32)} {d : Nat} (hd : 0 < d) {M : q_M} {a1 : Int32} {K : q_M → Prop} (h : (((M 99 2) ≤ a1) → (K M)) ∧ ((¬ (M 99 2) ≤ a1) → (vp_in a1 3 ∧ (q_Ci X (d - 1) 110 [.ref 97, .int 2, .int a1] (q_set M 108 (Int32.toNatClampNeg a1) 0) (fun r3 M2 => q_Cv X (d - 1) 112 [.ref 97, .int a1, .int r3, .int ((1 : Int32) <<< (r3 &&& 31)), .int 0, .int 0] M2 (fun M4 => q_Ex X d 113 2 [some (.ref 97), some (.int (a1 + 1)), none] [] M4 (q_rn K))))))) : q_Ex X d 113 2 [some (.ref 97), some (.int a1), none] [] M (q_rn K) := by
  refine q_iload_n (pc := 2) k113_2 rfl ?_
  refine q_aload_n (pc := 3) k113_3 rfl ?_
  refine q_getR (pc := 4) k113_4 fg113_13 rfl rfl ?_
  refine q_iconst (pc := 7) (v := 2) k113_7 (by decide) ?_
  refine q_ialdv (pc := 8) (v := M 99 2) k113_8 rfl (q_vin (by decide)) rfl ?_
  refine q_icmp_ge (pc := 9) 43 k113_9 (by decide) (fun g1 => ?_) (fun g1 => ?_)
  · replace h := h.1 g1
    exact q_return (pc := 43) k113_43 rfl ⟨rfl, h⟩
  · replace h := h.2 g1
    refine q_aload_n (pc := 12) k113_12 rfl ?_
    refine q_getR (pc := 13) k113_13 fg113_40 rfl rfl ?_
    refine q_iload_n (pc := 16) k113_16 rfl ?_
    refine q_iconst (pc := 17) (v := 0) k113_17 (by decide) ?_
    refine q_iastv (pc := 18) (k := (Int32.toNatClampNeg a1)) k113_18 rfl h.1 rfl ?_
    replace h := h.2
    refine q_aload_n (pc := 19) k113_19 rfl ?_
    refine q_iconst (pc := 20) (v := 2) k113_20 (by decide) ?_
    refine q_iload_n (pc := 21) k113_21 rfl ?_
    refine q_invV (pc := 22) (As := [.int 2, .int a1]) (st := []) k113_22 lm113_120 ov110 rfl rfl rfl (q_cat rfl) (Nat.le_of_ble_eq_true rfl) hd h ?_
    rintro v M2 ⟨r3, rfl, h⟩
    show q_Ex X d 113 (22 + 3) [some (.ref 97), some (.int a1), none] [.int r3] M2 _
    refine q_istore_n (pc := 25) [some (.ref 97), some (.int a1), some (.int r3)] k113_25 rfl (by decide) rfl ?_
    refine q_aload_n (pc := 26) k113_26 rfl ?_
    refine q_iload_n (pc := 27) k113_27 rfl ?_
    refine q_iload_n (pc := 28) k113_28 rfl ?_
    refine q_iconst (pc := 29) (v := 1) k113_29 (by decide) ?_
    refine q_iload_n (pc := 30) k113_30 rfl ?_
    refine q_ishl (pc := 31) k113_31 ?_
    refine q_iconst (pc := 32) (v := 0) k113_32 (by decide) ?_
    refine q_iconst (pc := 33) (v := 0) k113_33 (by decide) ?_
    refine q_invV (pc := 34) (As := [.int a1, .int r3, .int ((1 : Int32) <<< (r3 &&& 31)), .int 0, .int 0]) (st := []) k113_34 lm113_116 ov112 rfl rfl rfl (q_cat rfl) (Nat.le_of_ble_eq_true rfl) hd h ?_
    rintro v M4 ⟨rfl, h⟩
    show q_Ex X d 113 (34 + 3) [some (.ref 97), some (.int a1), some (.int r3)] [] M4 _
    refine q_iinc (pc := 37) (v := a1 + 1) [some (.ref 97), some (.int (a1 + 1)), some (.int r3)] k113_37 rfl rfl rfl (by decide) rfl ?_
    refine q_goto (pc := 40) 2 k113_40 (by decide) ?_
    exact q_forget [some (.ref 97), some (.int (a1 + 1)), none] (q_subOk (And.intro rfl (And.intro rfl (trivial)))) h
set_option maxRecDepth 20000 in
theorem vc114 {X : Nat × (Nat → Int32)} {d : Nat} {M : q_M} {a1 a2 : Int32} {K : Int32 → q_M → Prop} (h : ((¬ a1 = a2) → (q_Ex X d 114 12 [some (.ref 97), some (.int a1), some (.int a2), some (.int 0), some (.int 0), none] [] M (q_ri K))) ∧ ((a1 = a2) → (K 1 M))) : q_Ci X d 114 [.ref 97, .int a1, .int a2] M K := by
  show q_Ex X d 114 0 [some (.ref 97), some (.int a1), some (.int a2), none, none, none] [] M (q_ri K)
  refine q_iload_n (pc := 0) k114_0 rfl ?_
  refine q_iload_n (pc := 1) k114_1 rfl ?_
  refine q_icmp_ne (pc := 2) 7 k114_2 (by decide) (fun g1 => ?_) (fun g1 => ?_)
  · replace h := h.1 g1
    refine q_iconst (pc := 7) (v := 0) k114_7 (by decide) ?_
    refine q_istore_n (pc := 8) [some (.ref 97), some (.int a1), some (.int a2), some (.int 0), none, none] k114_8 rfl (by decide) rfl ?_
    refine q_iconst (pc := 9) (v := 0) k114_9 (by decide) ?_
    refine q_istore (pc := 10) [some (.ref 97), some (.int a1), some (.int a2), some (.int 0), some (.int 0), none] k114_10 rfl (by decide) rfl ?_
    exact h
  · replace h := h.2 g1
    refine q_iconst (pc := 5) (v := 1) k114_5 (by decide) ?_
    exact q_ireturn (pc := 6) k114_6 rfl ⟨_, rfl, h⟩
set_option maxRecDepth 20000 in
theorem vc114_p12 {X : Nat × (Nat → Int32)} {d : Nat} (hd : 0 < d) {M : q_M} {a1 a2 a3 a4 : Int32} {K : Int32 → q_M → Prop} (h : ((2 ≤ a4) → (K a3 M)) ∧ ((¬ 2 ≤ a4) → (q_Ci X (d - 1) 111 [.ref 97, .int a1, .int a4] M (fun r3 M2 => ((r3 < 0) → (q_Ex X d 114 12 [some (.ref 97), some (.int a1), some (.int a2), some (.int a3), some (.int (a4 + 1)), none] [] M2 (q_ri K))) ∧ ((¬ r3 < 0) → (q_Ci X (d - 1) 114 [.ref 97, .int r3, .int a2] M2 (fun r6 M5 => q_Ex X d 114 12 [some (.ref 97), some (.int a1), some (.int a2), some (.int (a3 + r6)), some (.int (a4 + 1)), none] [] M5 (q_ri K)))))))) : q_Ex X d 114 12 [some (.ref 97), some (.int a1), some (.int a2), some (.int a3), some (.int a4), none] [] M (q_ri K) := by
  refine q_iload (pc := 12) k114_12 rfl ?_
  refine q_iconst (pc := 14) (v := 2) k114_14 (by decide) ?_
  refine q_icmp_ge (pc := 15) 48 k114_15 (by decide) (fun g1 => ?_) (fun g1 => ?_)
  · replace h := h.1 g1
    refine q_iload_n (pc := 48) k114_48 rfl ?_
    exact q_ireturn (pc := 49) k114_49 rfl ⟨_, rfl, h⟩
  · replace h := h.2 g1
    refine q_aload_n (pc := 18) k114_18 rfl ?_
    refine q_iload_n (pc := 19) k114_19 rfl ?_
    refine q_iload (pc := 20) k114_20 rfl ?_
    refine q_invV (pc := 22) (As := [.int a1, .int a4]) (st := []) k114_22 lm114_112 ov111 rfl rfl rfl (q_cat rfl) (Nat.le_of_ble_eq_true rfl) hd h ?_
    rintro v M2 ⟨r3, rfl, h⟩
    show q_Ex X d 114 (22 + 3) [some (.ref 97), some (.int a1), some (.int a2), some (.int a3), some (.int a4), none] [.int r3] M2 _
    refine q_istore (pc := 25) [some (.ref 97), some (.int a1), some (.int a2), some (.int a3), some (.int a4), some (.int r3)] k114_25 rfl (by decide) rfl ?_
    refine q_iload (pc := 27) k114_27 rfl ?_
    refine q_if_lt (pc := 29) 42 k114_29 (by decide) (fun g4 => ?_) (fun g4 => ?_)
    · replace h := h.1 g4
      refine q_iinc (pc := 42) (v := a4 + 1) [some (.ref 97), some (.int a1), some (.int a2), some (.int a3), some (.int (a4 + 1)), some (.int r3)] k114_42 rfl rfl rfl (by decide) rfl ?_
      refine q_goto (pc := 45) 12 k114_45 (by decide) ?_
      exact q_forget [some (.ref 97), some (.int a1), some (.int a2), some (.int a3), some (.int (a4 + 1)), none] (q_subOk (And.intro rfl (And.intro rfl (And.intro rfl (And.intro rfl (And.intro rfl (trivial))))))) h
    · replace h := h.2 g4
      refine q_iload_n (pc := 32) k114_32 rfl ?_
      refine q_aload_n (pc := 33) k114_33 rfl ?_
      refine q_iload (pc := 34) k114_34 rfl ?_
      refine q_iload_n (pc := 36) k114_36 rfl ?_
      refine q_invV (pc := 37) (As := [.int r3, .int a2]) (st := [.int a3]) k114_37 lm114_123 ov114 rfl rfl rfl (q_cat rfl) (Nat.le_of_ble_eq_true rfl) hd h ?_
      rintro v M5 ⟨r6, rfl, h⟩
      show q_Ex X d 114 (37 + 3) [some (.ref 97), some (.int a1), some (.int a2), some (.int a3), some (.int a4), some (.int r3)] [.int r6, .int a3] M5 _
      refine q_iadd (pc := 40) k114_40 ?_
      refine q_istore_n (pc := 41) [some (.ref 97), some (.int a1), some (.int a2), some (.int (a3 + r6)), some (.int a4), some (.int r3)] k114_41 rfl (by decide) rfl ?_
      refine q_iinc (pc := 42) (v := a4 + 1) [some (.ref 97), some (.int a1), some (.int a2), some (.int (a3 + r6)), some (.int (a4 + 1)), some (.int r3)] k114_42 rfl rfl rfl (by decide) rfl ?_
      refine q_goto (pc := 45) 12 k114_45 (by decide) ?_
      exact q_forget [some (.ref 97), some (.int a1), some (.int a2), some (.int (a3 + r6)), some (.int (a4 + 1)), none] (q_subOk (And.intro rfl (And.intro rfl (And.intro rfl (And.intro rfl (And.intro rfl (trivial))))))) h
set_option maxRecDepth 20000 in
theorem vc115 {X : Nat × (Nat → Int32)} {d : Nat} (hd : 0 < d) {M : q_M} {a1 a2 : Int32} {K : Int32 → q_M → Prop} (h : q_Ci X (d - 1) 110 [.ref 97, .int 2, .int a1] M (fun r2 M1 => q_Ci X (d - 1) 110 [.ref 97, .int 3, .int a2] M1 (fun r4 M3 => q_Ci X (d - 1) 114 [.ref 97, .int r2, .int r4] M3 (fun r6 M5 => K r6 M5)))) : q_Ci X d 115 [.ref 97, .int a1, .int a2] M K := by
  show q_Ex X d 115 0 [some (.ref 97), some (.int a1), some (.int a2)] [] M (q_ri K)
  refine q_aload_n (pc := 0) k115_0 rfl ?_
  refine q_aload_n (pc := 1) k115_1 rfl ?_
  refine q_iconst (pc := 2) (v := 2) k115_2 (by decide) ?_
  refine q_iload_n (pc := 3) k115_3 rfl ?_
  refine q_invV (pc := 4) (As := [.int 2, .int a1]) (st := [.ref 97]) k115_4 lm115_120 ov110 rfl rfl rfl (q_cat rfl) (Nat.le_of_ble_eq_true rfl) hd h ?_
  rintro v M1 ⟨r2, rfl, h⟩
  show q_Ex X d 115 (4 + 3) [some (.ref 97), some (.int a1), some (.int a2)] [.int r2, .ref 97] M1 _
  refine q_aload_n (pc := 7) k115_7 rfl ?_
  refine q_iconst (pc := 8) (v := 3) k115_8 (by decide) ?_
  refine q_iload_n (pc := 9) k115_9 rfl ?_
  refine q_invV (pc := 10) (As := [.int 3, .int a2]) (st := [.int r2, .ref 97]) k115_10 lm115_120 ov110 rfl rfl rfl (q_cat rfl) (Nat.le_of_ble_eq_true rfl) hd h ?_
  rintro v M3 ⟨r4, rfl, h⟩
  show q_Ex X d 115 (10 + 3) [some (.ref 97), some (.int a1), some (.int a2)] [.int r4, .int r2, .ref 97] M3 _
  refine q_invV (pc := 13) (As := [.int r2, .int r4]) (st := []) k115_13 lm115_123 ov114 rfl rfl rfl (q_cat rfl) (Nat.le_of_ble_eq_true rfl) hd h ?_
  rintro v M5 ⟨r6, rfl, h⟩
  show q_Ex X d 115 (13 + 3) [some (.ref 97), some (.int a1), some (.int a2)] [.int r6] M5 _
  exact q_ireturn (pc := 16) k115_16 rfl ⟨_, rfl, h⟩
set_option maxRecDepth 20000 in
theorem vc116 {X : Nat × (Nat → Int32)} {d : Nat} (hd : 0 < d) {M : q_M} {a1 a2 : Int32} {K : Int32 → q_M → Prop} (h : q_Ci X (d - 1) 97 [.ref 97, .int a1] M (fun r2 M1 => ((r2 = 0) → (q_Ci X (d - 1) 91 [.ref 97, .int (-1)] M1 (fun r5 M4 => K r5 M4))) ∧ ((¬ r2 = 0) → (q_Ci X (d - 1) 97 [.ref 97, .int a2] M1 (fun r7 M6 => ((r7 = 0) → (q_Ci X (d - 1) 91 [.ref 97, .int (-1)] M6 (fun r10 M9 => K r10 M9))) ∧ ((¬ r7 = 0) → (q_Ci X (d - 1) 115 [.ref 97, .int a1, .int a2] M6 (fun r12 M11 => K r12 M11)))))))) : q_Ci X d 116 [.ref 97, .int a1, .int a2] M K := by
  show q_Ex X d 116 0 [some (.ref 97), some (.int a1), some (.int a2)] [] M (q_ri K)
  refine q_aload_n (pc := 0) k116_0 rfl ?_
  refine q_iload_n (pc := 1) k116_1 rfl ?_
  refine q_invV (pc := 2) (As := [.int a1]) (st := []) k116_2 lm116_126 ov97 rfl rfl rfl (q_cat rfl) (Nat.le_of_ble_eq_true rfl) hd h ?_
  rintro v M1 ⟨r2, rfl, h⟩
  show q_Ex X d 116 (2 + 3) [some (.ref 97), some (.int a1), some (.int a2)] [.int r2] M1 _
  refine q_if_eq (pc := 5) 25 k116_5 (by decide) (fun g3 => ?_) (fun g3 => ?_)
  · replace h := h.1 g3
    refine q_aload_n (pc := 25) k116_25 rfl ?_
    refine q_iconst (pc := 26) (v := (-1)) k116_26 (by decide) ?_
    refine q_invV (pc := 27) (As := [.int (-1)]) (st := []) k116_27 lm116_80 ov91 rfl rfl rfl (q_cat rfl) (Nat.le_of_ble_eq_true rfl) hd h ?_
    rintro v M4 ⟨r5, rfl, h⟩
    show q_Ex X d 116 (27 + 3) [some (.ref 97), some (.int a1), some (.int a2)] [.int r5] M4 _
    exact q_ireturn (pc := 30) k116_30 rfl ⟨_, rfl, h⟩
  · replace h := h.2 g3
    refine q_aload_n (pc := 8) k116_8 rfl ?_
    refine q_iload_n (pc := 9) k116_9 rfl ?_
    refine q_invV (pc := 10) (As := [.int a2]) (st := []) k116_10 lm116_126 ov97 rfl rfl rfl (q_cat rfl) (Nat.le_of_ble_eq_true rfl) hd h ?_
    rintro v M6 ⟨r7, rfl, h⟩
    show q_Ex X d 116 (10 + 3) [some (.ref 97), some (.int a1), some (.int a2)] [.int r7] M6 _
    refine q_if_eq (pc := 13) 25 k116_13 (by decide) (fun g8 => ?_) (fun g8 => ?_)
    · replace h := h.1 g8
      refine q_aload_n (pc := 25) k116_25 rfl ?_
      refine q_iconst (pc := 26) (v := (-1)) k116_26 (by decide) ?_
      refine q_invV (pc := 27) (As := [.int (-1)]) (st := []) k116_27 lm116_80 ov91 rfl rfl rfl (q_cat rfl) (Nat.le_of_ble_eq_true rfl) hd h ?_
      rintro v M9 ⟨r10, rfl, h⟩
      show q_Ex X d 116 (27 + 3) [some (.ref 97), some (.int a1), some (.int a2)] [.int r10] M9 _
      exact q_ireturn (pc := 30) k116_30 rfl ⟨_, rfl, h⟩
    · replace h := h.2 g8
      refine q_aload_n (pc := 16) k116_16 rfl ?_
      refine q_iload_n (pc := 17) k116_17 rfl ?_
      refine q_iload_n (pc := 18) k116_18 rfl ?_
      refine q_invV (pc := 19) (As := [.int a1, .int a2]) (st := []) k116_19 lm116_129 ov115 rfl rfl rfl (q_cat rfl) (Nat.le_of_ble_eq_true rfl) hd h ?_
      rintro v M11 ⟨r12, rfl, h⟩
      show q_Ex X d 116 (19 + 3) [some (.ref 97), some (.int a1), some (.int a2)] [.int r12] M11 _
      refine q_goto (pc := 22) 30 k116_22 (by decide) ?_
      exact q_ireturn (pc := 30) k116_30 rfl ⟨_, rfl, h⟩
set_option maxRecDepth 20000 in
theorem vc117 {X : Nat × (Nat → Int32)} {d : Nat} {M : q_M} {a1 : Int32} {K : Int32 → q_M → Prop} (h : q_Ex X d 117 4 [some (.ref 97), some (.int a1), some (.int 0), some (.int 0)] [] M (q_ri K)) : q_Ci X d 117 [.ref 97, .int a1] M K := by
  show q_Ex X d 117 0 [some (.ref 97), some (.int a1), none, none] [] M (q_ri K)
  refine q_iconst (pc := 0) (v := 0) k117_0 (by decide) ?_
  refine q_istore_n (pc := 1) [some (.ref 97), some (.int a1), some (.int 0), none] k117_1 rfl (by decide) rfl ?_
  refine q_iconst (pc := 2) (v := 0) k117_2 (by decide) ?_
  refine q_istore_n (pc := 3) [some (.ref 97), some (.int a1), some (.int 0), some (.int 0)] k117_3 rfl (by decide) rfl ?_
  exact h
set_option maxRecDepth 20000 in
theorem vc117_p4 {X : Nat × (Nat → Int32)} {d : Nat} (hd : 0 < d) {M : q_M} {a1 a2 a3 : Int32} {K : Int32 → q_M → Prop} (h : q_Ci X (d - 1) 95 [.ref 97] M (fun r2 M1 => ((r2 ≤ a3) → (K a2 M1)) ∧ ((¬ r2 ≤ a3) → (q_Ci X (d - 1) 99 [.ref 97, .int a3] M1 (fun r5 M4 => q_Ex X d 117 4 [some (.ref 97), some (.int a1), some (.int (a2 + (((a1 >>> (a3 &&& 31)) &&& 1) * r5))), some (.int (a3 + 1))] [] M4 (q_ri K)))))) : q_Ex X d 117 4 [some (.ref 97), some (.int a1), some (.int a2), some (.int a3)] [] M (q_ri K) := by
  refine q_iload_n (pc := 4) k117_4 rfl ?_
  refine q_aload_n (pc := 5) k117_5 rfl ?_
  refine q_invV (pc := 6) (As := []) (st := [.int a3]) k117_6 lm117_64 ov95 rfl rfl rfl (q_cat rfl) (Nat.le_of_ble_eq_true rfl) hd h ?_
  rintro v M1 ⟨r2, rfl, h⟩
  show q_Ex X d 117 (6 + 3) [some (.ref 97), some (.int a1), some (.int a2), some (.int a3)] [.int r2, .int a3] M1 _
  refine q_icmp_ge (pc := 9) 32 k117_9 (by decide) (fun g3 => ?_) (fun g3 => ?_)
  · replace h := h.1 g3
    refine q_iload_n (pc := 32) k117_32 rfl ?_
    exact q_ireturn (pc := 33) k117_33 rfl ⟨_, rfl, h⟩
  · replace h := h.2 g3
    refine q_iload_n (pc := 12) k117_12 rfl ?_
    refine q_iload_n (pc := 13) k117_13 rfl ?_
    refine q_iload_n (pc := 14) k117_14 rfl ?_
    refine q_ishr (pc := 15) k117_15 ?_
    refine q_iconst (pc := 16) (v := 1) k117_16 (by decide) ?_
    refine q_iand (pc := 17) k117_17 ?_
    refine q_aload_n (pc := 18) k117_18 rfl ?_
    refine q_iload_n (pc := 19) k117_19 rfl ?_
    refine q_invV (pc := 20) (As := [.int a3]) (st := [.int ((a1 >>> (a3 &&& 31)) &&& 1), .int a2]) k117_20 lm117_132 ov99 rfl rfl rfl (q_cat rfl) (Nat.le_of_ble_eq_true rfl) hd h ?_
    rintro v M4 ⟨r5, rfl, h⟩
    show q_Ex X d 117 (20 + 3) [some (.ref 97), some (.int a1), some (.int a2), some (.int a3)] [.int r5, .int ((a1 >>> (a3 &&& 31)) &&& 1), .int a2] M4 _
    refine q_imul (pc := 23) k117_23 ?_
    refine q_iadd (pc := 24) k117_24 ?_
    refine q_istore_n (pc := 25) [some (.ref 97), some (.int a1), some (.int (a2 + (((a1 >>> (a3 &&& 31)) &&& 1) * r5))), some (.int a3)] k117_25 rfl (by decide) rfl ?_
    refine q_iinc (pc := 26) (v := a3 + 1) [some (.ref 97), some (.int a1), some (.int (a2 + (((a1 >>> (a3 &&& 31)) &&& 1) * r5))), some (.int (a3 + 1))] k117_26 rfl rfl rfl (by decide) rfl ?_
    refine q_goto (pc := 29) 4 k117_29 (by decide) ?_
    exact h
set_option maxRecDepth 20000 in
theorem vc118 {X : Nat × (Nat → Int32)} {d : Nat} (hd : 0 < d) {M : q_M} {a1 : Int32} {K : q_M → Prop} (h : q_Ci X (d - 1) 117 [.ref 97, .int a1] M (fun r2 M1 => (((M1 97 21) < 0) → (((¬ (a1 &&& (M1 97 24)) = (M1 97 24)) → (q_Ex X d 118 51 [some (.ref 97), some (.int a1), none, some (.int 0), none] [] (q_set M1 97 21 r2) (q_rn K))) ∧ (((a1 &&& (M1 97 24)) = (M1 97 24)) → (q_Ex X d 118 51 [some (.ref 97), some (.int a1), none, some (.int 0), none] [] (q_set (q_set M1 97 21 r2) 97 22 ((M1 97 22) + 1)) (q_rn K))))) ∧ ((¬ (M1 97 21) < 0) → ((((M1 97 21) ≤ r2) → (((¬ (a1 &&& (M1 97 24)) = (M1 97 24)) → (q_Ex X d 118 51 [some (.ref 97), some (.int a1), none, some (.int 0), none] [] M1 (q_rn K))) ∧ (((a1 &&& (M1 97 24)) = (M1 97 24)) → (q_Ex X d 118 51 [some (.ref 97), some (.int a1), none, some (.int 0), none] [] (q_set M1 97 22 ((M1 97 22) + 1)) (q_rn K))))) ∧ ((¬ (M1 97 21) ≤ r2) → (((¬ (a1 &&& (M1 97 24)) = (M1 97 24)) → (q_Ex X d 118 51 [some (.ref 97), some (.int a1), none, some (.int 0), none] [] (q_set M1 97 21 r2) (q_rn K))) ∧ (((a1 &&& (M1 97 24)) = (M1 97 24)) → (q_Ex X d 118 51 [some (.ref 97), some (.int a1), none, some (.int 0), none] [] (q_set (q_set M1 97 21 r2) 97 22 ((M1 97 22) + 1)) (q_rn K))))))))) : q_Cv X d 118 [.ref 97, .int a1] M K := by
  show q_Ex X d 118 0 [some (.ref 97), some (.int a1), none, none, none] [] M (q_rn K)
  refine q_aload_n (pc := 0) k118_0 rfl ?_
  refine q_iload_n (pc := 1) k118_1 rfl ?_
  refine q_invV (pc := 2) (As := [.int a1]) (st := []) k118_2 lm118_135 ov117 rfl rfl rfl (q_cat rfl) (Nat.le_of_ble_eq_true rfl) hd h ?_
  rintro v M1 ⟨r2, rfl, h⟩
  show q_Ex X d 118 (2 + 3) [some (.ref 97), some (.int a1), none, none, none] [.int r2] M1 _
  refine q_istore_n (pc := 5) [some (.ref 97), some (.int a1), some (.int r2), none, none] k118_5 rfl (by decide) rfl ?_
  refine q_aload_n (pc := 6) k118_6 rfl ?_
  refine q_getIv (pc := 7) (v := M1 97 21) k118_7 fg118_138 rfl rfl rfl ?_
  refine q_if_lt (pc := 10) 21 k118_10 (by decide) (fun g3 => ?_) (fun g3 => ?_)
  · replace h := h.1 g3
    refine q_aload_n (pc := 21) k118_21 rfl ?_
    refine q_iload_n (pc := 22) k118_22 rfl ?_
    refine q_putI (pc := 23) k118_23 fp118_138 rfl rfl ?_
    refine q_iload_n (pc := 26) k118_26 rfl ?_
    refine q_aload_n (pc := 27) k118_27 rfl ?_
    refine q_getIv (pc := 28) (v := M1 97 24) k118_28 fg118_141 rfl rfl rfl ?_
    refine q_iand (pc := 31) k118_31 ?_
    refine q_aload_n (pc := 32) k118_32 rfl ?_
    refine q_getIv (pc := 33) (v := M1 97 24) k118_33 fg118_141 rfl rfl rfl ?_
    refine q_icmp_ne (pc := 36) 49 k118_36 (by decide) (fun g4 => ?_) (fun g4 => ?_)
    · replace h := h.1 g4
      refine q_iconst (pc := 49) (v := 0) k118_49 (by decide) ?_
      refine q_istore_n (pc := 50) [some (.ref 97), some (.int a1), some (.int r2), some (.int 0), none] k118_50 rfl (by decide) rfl ?_
      exact q_forget [some (.ref 97), some (.int a1), none, some (.int 0), none] (q_subOk (And.intro rfl (And.intro rfl (And.intro rfl (trivial))))) h
    · replace h := h.2 g4
      refine q_aload_n (pc := 39) k118_39 rfl ?_
      refine q_dup (pc := 40) k118_40 rfl ?_
      refine q_getIv (pc := 41) (v := M1 97 22) k118_41 fg118_144 rfl rfl rfl ?_
      refine q_iconst (pc := 44) (v := 1) k118_44 (by decide) ?_
      refine q_iadd (pc := 45) k118_45 ?_
      refine q_putI (pc := 46) k118_46 fp118_144 rfl rfl ?_
      refine q_iconst (pc := 49) (v := 0) k118_49 (by decide) ?_
      refine q_istore_n (pc := 50) [some (.ref 97), some (.int a1), some (.int r2), some (.int 0), none] k118_50 rfl (by decide) rfl ?_
      exact q_forget [some (.ref 97), some (.int a1), none, some (.int 0), none] (q_subOk (And.intro rfl (And.intro rfl (And.intro rfl (trivial))))) h
  · replace h := h.2 g3
    refine q_iload_n (pc := 13) k118_13 rfl ?_
    refine q_aload_n (pc := 14) k118_14 rfl ?_
    refine q_getIv (pc := 15) (v := M1 97 21) k118_15 fg118_138 rfl rfl rfl ?_
    refine q_icmp_ge (pc := 18) 26 k118_18 (by decide) (fun g5 => ?_) (fun g5 => ?_)
    · replace h := h.1 g5
      refine q_iload_n (pc := 26) k118_26 rfl ?_
      refine q_aload_n (pc := 27) k118_27 rfl ?_
      refine q_getIv (pc := 28) (v := M1 97 24) k118_28 fg118_141 rfl rfl rfl ?_
      refine q_iand (pc := 31) k118_31 ?_
      refine q_aload_n (pc := 32) k118_32 rfl ?_
      refine q_getIv (pc := 33) (v := M1 97 24) k118_33 fg118_141 rfl rfl rfl ?_
      refine q_icmp_ne (pc := 36) 49 k118_36 (by decide) (fun g6 => ?_) (fun g6 => ?_)
      · replace h := h.1 g6
        refine q_iconst (pc := 49) (v := 0) k118_49 (by decide) ?_
        refine q_istore_n (pc := 50) [some (.ref 97), some (.int a1), some (.int r2), some (.int 0), none] k118_50 rfl (by decide) rfl ?_
        exact q_forget [some (.ref 97), some (.int a1), none, some (.int 0), none] (q_subOk (And.intro rfl (And.intro rfl (And.intro rfl (trivial))))) h
      · replace h := h.2 g6
        refine q_aload_n (pc := 39) k118_39 rfl ?_
        refine q_dup (pc := 40) k118_40 rfl ?_
        refine q_getIv (pc := 41) (v := M1 97 22) k118_41 fg118_144 rfl rfl rfl ?_
        refine q_iconst (pc := 44) (v := 1) k118_44 (by decide) ?_
        refine q_iadd (pc := 45) k118_45 ?_
        refine q_putI (pc := 46) k118_46 fp118_144 rfl rfl ?_
        refine q_iconst (pc := 49) (v := 0) k118_49 (by decide) ?_
        refine q_istore_n (pc := 50) [some (.ref 97), some (.int a1), some (.int r2), some (.int 0), none] k118_50 rfl (by decide) rfl ?_
        exact q_forget [some (.ref 97), some (.int a1), none, some (.int 0), none] (q_subOk (And.intro rfl (And.intro rfl (And.intro rfl (trivial))))) h
    · replace h := h.2 g5
      refine q_aload_n (pc := 21) k118_21 rfl ?_
      refine q_iload_n (pc := 22) k118_22 rfl ?_
      refine q_putI (pc := 23) k118_23 fp118_138 rfl rfl ?_
      refine q_iload_n (pc := 26) k118_26 rfl ?_
      refine q_aload_n (pc := 27) k118_27 rfl ?_
      refine q_getIv (pc := 28) (v := M1 97 24) k118_28 fg118_141 rfl rfl rfl ?_
      refine q_iand (pc := 31) k118_31 ?_
      refine q_aload_n (pc := 32) k118_32 rfl ?_
      refine q_getIv (pc := 33) (v := M1 97 24) k118_33 fg118_141 rfl rfl rfl ?_
      refine q_icmp_ne (pc := 36) 49 k118_36 (by decide) (fun g7 => ?_) (fun g7 => ?_)
      · replace h := h.1 g7
        refine q_iconst (pc := 49) (v := 0) k118_49 (by decide) ?_
        refine q_istore_n (pc := 50) [some (.ref 97), some (.int a1), some (.int r2), some (.int 0), none] k118_50 rfl (by decide) rfl ?_
        exact q_forget [some (.ref 97), some (.int a1), none, some (.int 0), none] (q_subOk (And.intro rfl (And.intro rfl (And.intro rfl (trivial))))) h
      · replace h := h.2 g7
        refine q_aload_n (pc := 39) k118_39 rfl ?_
        refine q_dup (pc := 40) k118_40 rfl ?_
        refine q_getIv (pc := 41) (v := M1 97 22) k118_41 fg118_144 rfl rfl rfl ?_
        refine q_iconst (pc := 44) (v := 1) k118_44 (by decide) ?_
        refine q_iadd (pc := 45) k118_45 ?_
        refine q_putI (pc := 46) k118_46 fp118_144 rfl rfl ?_
        refine q_iconst (pc := 49) (v := 0) k118_49 (by decide) ?_
        refine q_istore_n (pc := 50) [some (.ref 97), some (.int a1), some (.int r2), some (.int 0), none] k118_50 rfl (by decide) rfl ?_
        exact q_forget [some (.ref 97), some (.int a1), none, some (.int 0), none] (q_subOk (And.intro rfl (And.intro rfl (And.intro rfl (trivial))))) h
set_option maxRecDepth 20000 in
theorem vc118_p51 {X : Nat × (Nat → Int32)} {d : Nat} (hd : 0 < d) {M : q_M} {a1 a3 : Int32} {K : q_M → Prop} (h : q_Ci X (d - 1) 95 [.ref 97] M (fun r2 M1 => ((r2 ≤ a3) → (q_Ex X d 118 81 [some (.ref 97), none, none, some (.int 0), none] [] M1 (q_rn K))) ∧ ((¬ r2 ≤ a3) → (vp_in a3 30 ∧ (vp_in a3 30 ∧ (q_Ex X d 118 51 [some (.ref 97), some (.int a1), none, some (.int (a3 + 1)), none] [] (q_set M1 112 (Int32.toNatClampNeg a3) ((M1 112 (Int32.toNatClampNeg a3)) + ((a1 >>> (a3 &&& 31)) &&& 1))) (q_rn K))))))) : q_Ex X d 118 51 [some (.ref 97), some (.int a1), none, some (.int a3), none] [] M (q_rn K) := by
  refine q_iload_n (pc := 51) k118_51 rfl ?_
  refine q_aload_n (pc := 52) k118_52 rfl ?_
  refine q_invV (pc := 53) (As := []) (st := [.int a3]) k118_53 lm118_64 ov95 rfl rfl rfl (q_cat rfl) (Nat.le_of_ble_eq_true rfl) hd h ?_
  rintro v M1 ⟨r2, rfl, h⟩
  show q_Ex X d 118 (53 + 3) [some (.ref 97), some (.int a1), none, some (.int a3), none] [.int r2, .int a3] M1 _
  refine q_icmp_ge (pc := 56) 79 k118_56 (by decide) (fun g3 => ?_) (fun g3 => ?_)
  · replace h := h.1 g3
    refine q_iconst (pc := 79) (v := 0) k118_79 (by decide) ?_
    refine q_istore_n (pc := 80) [some (.ref 97), some (.int a1), none, some (.int 0), none] k118_80 rfl (by decide) rfl ?_
    exact q_forget [some (.ref 97), none, none, some (.int 0), none] (q_subOk (And.intro rfl (And.intro rfl (trivial)))) h
  · replace h := h.2 g3
    refine q_aload_n (pc := 59) k118_59 rfl ?_
    refine q_getR (pc := 60) k118_60 fg118_52 rfl rfl ?_
    refine q_iload_n (pc := 63) k118_63 rfl ?_
    refine q_dup2 (pc := 64) k118_64 rfl rfl ?_
    refine q_ialdv (pc := 65) (v := M1 112 (Int32.toNatClampNeg a3)) k118_65 rfl h.1 rfl ?_
    replace h := h.2
    refine q_iload_n (pc := 66) k118_66 rfl ?_
    refine q_iload_n (pc := 67) k118_67 rfl ?_
    refine q_ishr (pc := 68) k118_68 ?_
    refine q_iconst (pc := 69) (v := 1) k118_69 (by decide) ?_
    refine q_iand (pc := 70) k118_70 ?_
    refine q_iadd (pc := 71) k118_71 ?_
    refine q_iastv (pc := 72) (k := (Int32.toNatClampNeg a3)) k118_72 rfl h.1 rfl ?_
    replace h := h.2
    refine q_iinc (pc := 73) (v := a3 + 1) [some (.ref 97), some (.int a1), none, some (.int (a3 + 1)), none] k118_73 rfl rfl rfl (by decide) rfl ?_
    refine q_goto (pc := 76) 51 k118_76 (by decide) ?_
    exact h
set_option maxRecDepth 20000 in
theorem vc118_p81 {X : Nat × (Nat → Int32)} {d : Nat} {M : q_M} {a3 : Int32} {K : q_M → Prop} (h : (((M 99 2) ≤ a3) → (K (q_set M 97 20 ((M 97 20) + 1)))) ∧ ((¬ (M 99 2) ≤ a3) → (q_Ex X d 118 94 [some (.ref 97), none, none, some (.int a3), some (.int 0)] [] M (q_rn K)))) : q_Ex X d 118 81 [some (.ref 97), none, none, some (.int a3), none] [] M (q_rn K) := by
  refine q_iload_n (pc := 81) k118_81 rfl ?_
  refine q_aload_n (pc := 82) k118_82 rfl ?_
  refine q_getR (pc := 83) k118_83 fg118_13 rfl rfl ?_
  refine q_iconst (pc := 86) (v := 2) k118_86 (by decide) ?_
  refine q_ialdv (pc := 87) (v := M 99 2) k118_87 rfl (q_vin (by decide)) rfl ?_
  refine q_icmp_ge (pc := 88) 177 k118_88 (by decide) (fun g1 => ?_) (fun g1 => ?_)
  · replace h := h.1 g1
    refine q_aload_n (pc := 177) k118_177 rfl ?_
    refine q_dup (pc := 178) k118_178 rfl ?_
    refine q_getIv (pc := 179) (v := M 97 20) k118_179 fg118_147 rfl rfl rfl ?_
    refine q_iconst (pc := 182) (v := 1) k118_182 (by decide) ?_
    refine q_iadd (pc := 183) k118_183 ?_
    refine q_putI (pc := 184) k118_184 fp118_147 rfl rfl ?_
    exact q_return (pc := 187) k118_187 rfl ⟨rfl, h⟩
  · replace h := h.2 g1
    refine q_iconst (pc := 91) (v := 0) k118_91 (by decide) ?_
    refine q_istore (pc := 92) [some (.ref 97), none, none, some (.int a3), some (.int 0)] k118_92 rfl (by decide) rfl ?_
    exact h
set_option maxRecDepth 20000 in
theorem vc118_p94 {X : Nat × (Nat → Int32)} {d : Nat} (hd : 0 < d) {M : q_M} {a3 a4 : Int32} {K : q_M → Prop} (h : q_Ci X (d - 1) 95 [.ref 97] M (fun r2 M1 => ((r2 ≤ a4) → (((¬ (M1 97 20) = (M1 97 23)) → (q_Ex X d 118 81 [some (.ref 97), none, none, some (.int (a3 + 1)), none] [] M1 (q_rn K))) ∧ (((M1 97 20) = (M1 97 23)) → (vp_in a3 3 ∧ (vp_in a3 3 ∧ (q_Ex X d 118 81 [some (.ref 97), none, none, some (.int (a3 + 1)), none] [] (q_set M1 111 (Int32.toNatClampNeg a3) (M1 110 (Int32.toNatClampNeg a3))) (q_rn K))))))) ∧ ((¬ r2 ≤ a4) → (vp_in a3 3 ∧ (vp_in (((400 : Int32) * a3) + (M1 110 (Int32.toNatClampNeg a3))) 1200 ∧ (((¬ (((M1 104 (Int32.toNatClampNeg (((400 : Int32) * a3) + (M1 110 (Int32.toNatClampNeg a3))))) >>> (a4 &&& 31)) &&& 1) = 1) → (q_Ex X d 118 94 [some (.ref 97), none, none, some (.int a3), some (.int (a4 + 1))] [] M1 (q_rn K))) ∧ (((((M1 104 (Int32.toNatClampNeg (((400 : Int32) * a3) + (M1 110 (Int32.toNatClampNeg a3))))) >>> (a4 &&& 31)) &&& 1) = 1) → (vp_in a4 30 ∧ (vp_in a4 30 ∧ (q_Ex X d 118 94 [some (.ref 97), none, none, some (.int a3), some (.int (a4 + 1))] [] (q_set M1 113 (Int32.toNatClampNeg a4) ((M1 113 (Int32.toNatClampNeg a4)) ||| ((1 : Int32) <<< (a3 &&& 31)))) (q_rn K))))))))))) : q_Ex X d 118 94 [some (.ref 97), none, none, some (.int a3), some (.int a4)] [] M (q_rn K) := by
  refine q_iload (pc := 94) k118_94 rfl ?_
  refine q_aload_n (pc := 96) k118_96 rfl ?_
  refine q_invV (pc := 97) (As := []) (st := [.int a4]) k118_97 lm118_64 ov95 rfl rfl rfl (q_cat rfl) (Nat.le_of_ble_eq_true rfl) hd h ?_
  rintro v M1 ⟨r2, rfl, h⟩
  show q_Ex X d 118 (97 + 3) [some (.ref 97), none, none, some (.int a3), some (.int a4)] [.int r2, .int a4] M1 _
  refine q_icmp_ge (pc := 100) 148 k118_100 (by decide) (fun g3 => ?_) (fun g3 => ?_)
  · replace h := h.1 g3
    refine q_aload_n (pc := 148) k118_148 rfl ?_
    refine q_getIv (pc := 149) (v := M1 97 20) k118_149 fg118_147 rfl rfl rfl ?_
    refine q_aload_n (pc := 152) k118_152 rfl ?_
    refine q_getIv (pc := 153) (v := M1 97 23) k118_153 fg118_150 rfl rfl rfl ?_
    refine q_icmp_ne (pc := 156) 171 k118_156 (by decide) (fun g4 => ?_) (fun g4 => ?_)
    · replace h := h.1 g4
      refine q_iinc (pc := 171) (v := a3 + 1) [some (.ref 97), none, none, some (.int (a3 + 1)), some (.int a4)] k118_171 rfl rfl rfl (by decide) rfl ?_
      refine q_goto (pc := 174) 81 k118_174 (by decide) ?_
      exact q_forget [some (.ref 97), none, none, some (.int (a3 + 1)), none] (q_subOk (And.intro rfl (And.intro rfl (trivial)))) h
    · replace h := h.2 g4
      refine q_aload_n (pc := 159) k118_159 rfl ?_
      refine q_getR (pc := 160) k118_160 fg118_49 rfl rfl ?_
      refine q_iload_n (pc := 163) k118_163 rfl ?_
      refine q_aload_n (pc := 164) k118_164 rfl ?_
      refine q_getR (pc := 165) k118_165 fg118_46 rfl rfl ?_
      refine q_iload_n (pc := 168) k118_168 rfl ?_
      refine q_ialdv (pc := 169) (v := M1 110 (Int32.toNatClampNeg a3)) k118_169 rfl h.1 rfl ?_
      replace h := h.2
      refine q_iastv (pc := 170) (k := (Int32.toNatClampNeg a3)) k118_170 rfl h.1 rfl ?_
      replace h := h.2
      refine q_iinc (pc := 171) (v := a3 + 1) [some (.ref 97), none, none, some (.int (a3 + 1)), some (.int a4)] k118_171 rfl rfl rfl (by decide) rfl ?_
      refine q_goto (pc := 174) 81 k118_174 (by decide) ?_
      exact q_forget [some (.ref 97), none, none, some (.int (a3 + 1)), none] (q_subOk (And.intro rfl (And.intro rfl (trivial)))) h
  · replace h := h.2 g3
    refine q_aload_n (pc := 103) k118_103 rfl ?_
    refine q_getR (pc := 104) k118_104 fg118_28 rfl rfl ?_
    refine q_sipush (pc := 107) (v := 400) k118_107 (by decide) ?_
    refine q_iload_n (pc := 110) k118_110 rfl ?_
    refine q_imul (pc := 111) k118_111 ?_
    refine q_aload_n (pc := 112) k118_112 rfl ?_
    refine q_getR (pc := 113) k118_113 fg118_46 rfl rfl ?_
    refine q_iload_n (pc := 116) k118_116 rfl ?_
    refine q_ialdv (pc := 117) (v := M1 110 (Int32.toNatClampNeg a3)) k118_117 rfl h.1 rfl ?_
    replace h := h.2
    refine q_iadd (pc := 118) k118_118 ?_
    refine q_ialdv (pc := 119) (v := M1 104 (Int32.toNatClampNeg (((400 : Int32) * a3) + (M1 110 (Int32.toNatClampNeg a3))))) k118_119 rfl h.1 rfl ?_
    replace h := h.2
    refine q_iload (pc := 120) k118_120 rfl ?_
    refine q_ishr (pc := 122) k118_122 ?_
    refine q_iconst (pc := 123) (v := 1) k118_123 (by decide) ?_
    refine q_iand (pc := 124) k118_124 ?_
    refine q_iconst (pc := 125) (v := 1) k118_125 (by decide) ?_
    refine q_icmp_ne (pc := 126) 142 k118_126 (by decide) (fun g5 => ?_) (fun g5 => ?_)
    · replace h := h.1 g5
      refine q_iinc (pc := 142) (v := a4 + 1) [some (.ref 97), none, none, some (.int a3), some (.int (a4 + 1))] k118_142 rfl rfl rfl (by decide) rfl ?_
      refine q_goto (pc := 145) 94 k118_145 (by decide) ?_
      exact h
    · replace h := h.2 g5
      refine q_aload_n (pc := 129) k118_129 rfl ?_
      refine q_getR (pc := 130) k118_130 fg118_55 rfl rfl ?_
      refine q_iload (pc := 133) k118_133 rfl ?_
      refine q_dup2 (pc := 135) k118_135 rfl rfl ?_
      refine q_ialdv (pc := 136) (v := M1 113 (Int32.toNatClampNeg a4)) k118_136 rfl h.1 rfl ?_
      replace h := h.2
      refine q_iconst (pc := 137) (v := 1) k118_137 (by decide) ?_
      refine q_iload_n (pc := 138) k118_138 rfl ?_
      refine q_ishl (pc := 139) k118_139 ?_
      refine q_ior (pc := 140) k118_140 ?_
      refine q_iastv (pc := 141) (k := (Int32.toNatClampNeg a4)) k118_141 rfl h.1 rfl ?_
      replace h := h.2
      refine q_iinc (pc := 142) (v := a4 + 1) [some (.ref 97), none, none, some (.int a3), some (.int (a4 + 1))] k118_142 rfl rfl rfl (by decide) rfl ?_
      refine q_goto (pc := 145) 94 k118_145 (by decide) ?_
      exact h
set_option maxRecDepth 20000 in
theorem vc119 {X : Nat × (Nat → Int32)} {d : Nat} (hd : 0 < d) {M : q_M} {a1 a2 a3 : Int32} {K : q_M → Prop} (h : ((¬ a1 = (M 99 2)) → (q_Ex X d 119 19 [some (.ref 97), some (.int a1), some (.int a2), some (.int a3), some (.int 0), none, none] [] M (q_rn K))) ∧ ((a1 = (M 99 2)) → (q_Cv X (d - 1) 118 [.ref 97, .int a2] M (fun M2 => K M2)))) : q_Cv X d 119 [.ref 97, .int a1, .int a2, .int a3] M K := by
  show q_Ex X d 119 0 [some (.ref 97), some (.int a1), some (.int a2), some (.int a3), none, none, none] [] M (q_rn K)
  refine q_iload_n (pc := 0) k119_0 rfl ?_
  refine q_aload_n (pc := 1) k119_1 rfl ?_
  refine q_getR (pc := 2) k119_2 fg119_13 rfl rfl ?_
  refine q_iconst (pc := 5) (v := 2) k119_5 (by decide) ?_
  refine q_ialdv (pc := 6) (v := M 99 2) k119_6 rfl (q_vin (by decide)) rfl ?_
  refine q_icmp_ne (pc := 7) 16 k119_7 (by decide) (fun g1 => ?_) (fun g1 => ?_)
  · replace h := h.1 g1
    refine q_iconst (pc := 16) (v := 0) k119_16 (by decide) ?_
    refine q_istore (pc := 17) [some (.ref 97), some (.int a1), some (.int a2), some (.int a3), some (.int 0), none, none] k119_17 rfl (by decide) rfl ?_
    exact h
  · replace h := h.2 g1
    refine q_aload_n (pc := 10) k119_10 rfl ?_
    refine q_iload_n (pc := 11) k119_11 rfl ?_
    refine q_invV (pc := 12) (As := [.int a2]) (st := []) k119_12 lm119_153 ov118 rfl rfl rfl (q_cat rfl) (Nat.le_of_ble_eq_true rfl) hd h ?_
    rintro v M2 ⟨rfl, h⟩
    show q_Ex X d 119 (12 + 3) [some (.ref 97), some (.int a1), some (.int a2), some (.int a3), none, none, none] [] M2 _
    exact q_return (pc := 15) k119_15 rfl ⟨rfl, h⟩
set_option maxRecDepth 20000 in
theorem vc119_p19 {X : Nat × (Nat → Int32)} {d : Nat} (hd : 0 < d) {M : q_M} {a1 a2 a3 a4 : Int32} {K : q_M → Prop} (h : vp_in a1 3 ∧ ((((M 108 (Int32.toNatClampNeg a1)) ≤ a4) → (K M)) ∧ ((¬ (M 108 (Int32.toNatClampNeg a1)) ≤ a4) → (vp_in a1 3 ∧ (((0 ≤ (M 109 (Int32.toNatClampNeg a1))) → (vp_in (((400 : Int32) * a1) + a4) 1200 ∧ (vp_in a1 3 ∧ (((¬ (M 107 (Int32.toNatClampNeg (((400 : Int32) * a1) + a4))) = (M 109 (Int32.toNatClampNeg a1))) → (q_Ex X d 119 19 [some (.ref 97), some (.int a1), some (.int a2), some (.int a3), some (.int (a4 + 1)), none, none] [] M (q_rn K))) ∧ (((M 107 (Int32.toNatClampNeg (((400 : Int32) * a1) + a4))) = (M 109 (Int32.toNatClampNeg a1))) → (vp_in (((400 : Int32) * a1) + a4) 1200 ∧ (((((M 104 (Int32.toNatClampNeg (((400 : Int32) * a1) + a4))) &&& a2) = 0) → (vp_in a1 3 ∧ (vp_in (((400 : Int32) * a1) + a4) 1200 ∧ (vp_in (((400 : Int32) * a1) + a4) 1200 ∧ (q_Cv X (d - 1) 119 [.ref 97, .int (a1 + 1), .int (a2 ||| (M 104 (Int32.toNatClampNeg (((400 : Int32) * a1) + a4)))), .int (a3 ||| ((1 : Int32) <<< ((M 107 (Int32.toNatClampNeg (((400 : Int32) * a1) + a4))) &&& 31)))] (q_set M 110 (Int32.toNatClampNeg a1) a4) (fun M5 => q_Ex X d 119 19 [some (.ref 97), some (.int a1), some (.int a2), some (.int a3), some (.int (a4 + 1)), none, none] [] M5 (q_rn K))))))) ∧ ((¬ ((M 104 (Int32.toNatClampNeg (((400 : Int32) * a1) + a4))) &&& a2) = 0) → (q_Ex X d 119 19 [some (.ref 97), some (.int a1), some (.int a2), some (.int a3), some (.int (a4 + 1)), none, none] [] M (q_rn K)))))))))) ∧ ((¬ 0 ≤ (M 109 (Int32.toNatClampNeg a1))) → (vp_in (((400 : Int32) * a1) + a4) 1200 ∧ (((¬ ((a3 >>> ((M 107 (Int32.toNatClampNeg (((400 : Int32) * a1) + a4))) &&& 31)) &&& 1) = 0) → (q_Ex X d 119 19 [some (.ref 97), some (.int a1), some (.int a2), some (.int a3), some (.int (a4 + 1)), none, none] [] M (q_rn K))) ∧ ((((a3 >>> ((M 107 (Int32.toNatClampNeg (((400 : Int32) * a1) + a4))) &&& 31)) &&& 1) = 0) → (vp_in (((400 : Int32) * a1) + a4) 1200 ∧ (((((M 104 (Int32.toNatClampNeg (((400 : Int32) * a1) + a4))) &&& a2) = 0) → (vp_in a1 3 ∧ (vp_in (((400 : Int32) * a1) + a4) 1200 ∧ (vp_in (((400 : Int32) * a1) + a4) 1200 ∧ (q_Cv X (d - 1) 119 [.ref 97, .int (a1 + 1), .int (a2 ||| (M 104 (Int32.toNatClampNeg (((400 : Int32) * a1) + a4)))), .int (a3 ||| ((1 : Int32) <<< ((M 107 (Int32.toNatClampNeg (((400 : Int32) * a1) + a4))) &&& 31)))] (q_set M 110 (Int32.toNatClampNeg a1) a4) (fun M8 => q_Ex X d 119 19 [some (.ref 97), some (.int a1), some (.int a2), some (.int a3), some (.int (a4 + 1)), none, none] [] M8 (q_rn K))))))) ∧ ((¬ ((M 104 (Int32.toNatClampNeg (((400 : Int32) * a1) + a4))) &&& a2) = 0) → (q_Ex X d 119 19 [some (.ref 97), some (.int a1), some (.int a2), some (.int a3), some (.int (a4 + 1)), none, none] [] M (q_rn K)))))))))))))) : q_Ex X d 119 19 [some (.ref 97), some (.int a1), some (.int a2), some (.int a3), some (.int a4), none, none] [] M (q_rn K) := by
  refine q_iload (pc := 19) k119_19 rfl ?_
  refine q_aload_n (pc := 21) k119_21 rfl ?_
  refine q_getR (pc := 22) k119_22 fg119_40 rfl rfl ?_
  refine q_iload_n (pc := 25) k119_25 rfl ?_
  refine q_ialdv (pc := 26) (v := M 108 (Int32.toNatClampNeg a1)) k119_26 rfl h.1 rfl ?_
  replace h := h.2
  refine q_icmp_ge (pc := 27) 155 k119_27 (by decide) (fun g1 => ?_) (fun g1 => ?_)
  · replace h := h.1 g1
    exact q_return (pc := 155) k119_155 rfl ⟨rfl, h⟩
  · replace h := h.2 g1
    refine q_sipush (pc := 30) (v := 400) k119_30 (by decide) ?_
    refine q_iload_n (pc := 33) k119_33 rfl ?_
    refine q_imul (pc := 34) k119_34 ?_
    refine q_iload (pc := 35) k119_35 rfl ?_
    refine q_iadd (pc := 37) k119_37 ?_
    refine q_istore (pc := 38) [some (.ref 97), some (.int a1), some (.int a2), some (.int a3), some (.int a4), some (.int (((400 : Int32) * a1) + a4)), none] k119_38 rfl (by decide) rfl ?_
    refine q_aload_n (pc := 40) k119_40 rfl ?_
    refine q_getR (pc := 41) k119_41 fg119_43 rfl rfl ?_
    refine q_iload_n (pc := 44) k119_44 rfl ?_
    refine q_ialdv (pc := 45) (v := M 109 (Int32.toNatClampNeg a1)) k119_45 rfl h.1 rfl ?_
    replace h := h.2
    refine q_if_ge (pc := 46) 71 k119_46 (by decide) (fun g2 => ?_) (fun g2 => ?_)
    · replace h := h.1 g2
      refine q_aload_n (pc := 71) k119_71 rfl ?_
      refine q_getR (pc := 72) k119_72 fg119_37 rfl rfl ?_
      refine q_iload (pc := 75) k119_75 rfl ?_
      refine q_ialdv (pc := 77) (v := M 107 (Int32.toNatClampNeg (((400 : Int32) * a1) + a4))) k119_77 rfl h.1 rfl ?_
      replace h := h.2
      refine q_aload_n (pc := 78) k119_78 rfl ?_
      refine q_getR (pc := 79) k119_79 fg119_43 rfl rfl ?_
      refine q_iload_n (pc := 82) k119_82 rfl ?_
      refine q_ialdv (pc := 83) (v := M 109 (Int32.toNatClampNeg a1)) k119_83 rfl h.1 rfl ?_
      replace h := h.2
      refine q_icmp_ne (pc := 84) 91 k119_84 (by decide) (fun g3 => ?_) (fun g3 => ?_)
      · replace h := h.1 g3
        refine q_iconst (pc := 91) (v := 0) k119_91 (by decide) ?_
        refine q_istore (pc := 92) [some (.ref 97), some (.int a1), some (.int a2), some (.int a3), some (.int a4), some (.int (((400 : Int32) * a1) + a4)), some (.int 0)] k119_92 rfl (by decide) rfl ?_
        refine q_iload (pc := 94) k119_94 rfl ?_
        refine q_if_eq (pc := 96) 149 k119_96 (by decide) (fun _ => ?_) (fun g => absurd g (by decide))
        refine q_iinc (pc := 149) (v := a4 + 1) [some (.ref 97), some (.int a1), some (.int a2), some (.int a3), some (.int (a4 + 1)), some (.int (((400 : Int32) * a1) + a4)), some (.int 0)] k119_149 rfl rfl rfl (by decide) rfl ?_
        refine q_goto (pc := 152) 19 k119_152 (by decide) ?_
        exact q_forget [some (.ref 97), some (.int a1), some (.int a2), some (.int a3), some (.int (a4 + 1)), none, none] (q_subOk (And.intro rfl (And.intro rfl (And.intro rfl (And.intro rfl (And.intro rfl (trivial))))))) h
      · replace h := h.2 g3
        refine q_iconst (pc := 87) (v := 1) k119_87 (by decide) ?_
        refine q_goto (pc := 88) 92 k119_88 (by decide) ?_
        refine q_istore (pc := 92) [some (.ref 97), some (.int a1), some (.int a2), some (.int a3), some (.int a4), some (.int (((400 : Int32) * a1) + a4)), some (.int 1)] k119_92 rfl (by decide) rfl ?_
        refine q_iload (pc := 94) k119_94 rfl ?_
        refine q_if_eq (pc := 96) 149 k119_96 (by decide) (fun g => absurd g (by decide)) (fun _ => ?_)
        refine q_aload_n (pc := 99) k119_99 rfl ?_
        refine q_getR (pc := 100) k119_100 fg119_28 rfl rfl ?_
        refine q_iload (pc := 103) k119_103 rfl ?_
        refine q_ialdv (pc := 105) (v := M 104 (Int32.toNatClampNeg (((400 : Int32) * a1) + a4))) k119_105 rfl h.1 rfl ?_
        replace h := h.2
        refine q_iload_n (pc := 106) k119_106 rfl ?_
        refine q_iand (pc := 107) k119_107 ?_
        refine q_if_eq (pc := 108) 114 k119_108 (by decide) (fun g4 => ?_) (fun g4 => ?_)
        · replace h := h.1 g4
          refine q_aload_n (pc := 114) k119_114 rfl ?_
          refine q_getR (pc := 115) k119_115 fg119_46 rfl rfl ?_
          refine q_iload_n (pc := 118) k119_118 rfl ?_
          refine q_iload (pc := 119) k119_119 rfl ?_
          refine q_iastv (pc := 121) (k := (Int32.toNatClampNeg a1)) k119_121 rfl h.1 rfl ?_
          replace h := h.2
          refine q_aload_n (pc := 122) k119_122 rfl ?_
          refine q_iload_n (pc := 123) k119_123 rfl ?_
          refine q_iconst (pc := 124) (v := 1) k119_124 (by decide) ?_
          refine q_iadd (pc := 125) k119_125 ?_
          refine q_iload_n (pc := 126) k119_126 rfl ?_
          refine q_aload_n (pc := 127) k119_127 rfl ?_
          refine q_getR (pc := 128) k119_128 fg119_28 rfl rfl ?_
          refine q_iload (pc := 131) k119_131 rfl ?_
          refine q_ialdv (pc := 133) (v := M 104 (Int32.toNatClampNeg (((400 : Int32) * a1) + a4))) k119_133 rfl h.1 rfl ?_
          replace h := h.2
          refine q_ior (pc := 134) k119_134 ?_
          refine q_iload_n (pc := 135) k119_135 rfl ?_
          refine q_iconst (pc := 136) (v := 1) k119_136 (by decide) ?_
          refine q_aload_n (pc := 137) k119_137 rfl ?_
          refine q_getR (pc := 138) k119_138 fg119_37 rfl rfl ?_
          refine q_iload (pc := 141) k119_141 rfl ?_
          refine q_ialdv (pc := 143) (v := M 107 (Int32.toNatClampNeg (((400 : Int32) * a1) + a4))) k119_143 rfl h.1 rfl ?_
          replace h := h.2
          refine q_ishl (pc := 144) k119_144 ?_
          refine q_ior (pc := 145) k119_145 ?_
          refine q_invV (pc := 146) (As := [.int (a1 + 1), .int (a2 ||| (M 104 (Int32.toNatClampNeg (((400 : Int32) * a1) + a4)))), .int (a3 ||| ((1 : Int32) <<< ((M 107 (Int32.toNatClampNeg (((400 : Int32) * a1) + a4))) &&& 31)))]) (st := []) k119_146 lm119_157 ov119 rfl rfl rfl (q_cat rfl) (Nat.le_of_ble_eq_true rfl) hd h ?_
          rintro v M5 ⟨rfl, h⟩
          show q_Ex X d 119 (146 + 3) [some (.ref 97), some (.int a1), some (.int a2), some (.int a3), some (.int a4), some (.int (((400 : Int32) * a1) + a4)), some (.int 1)] [] M5 _
          refine q_iinc (pc := 149) (v := a4 + 1) [some (.ref 97), some (.int a1), some (.int a2), some (.int a3), some (.int (a4 + 1)), some (.int (((400 : Int32) * a1) + a4)), some (.int 1)] k119_149 rfl rfl rfl (by decide) rfl ?_
          refine q_goto (pc := 152) 19 k119_152 (by decide) ?_
          exact q_forget [some (.ref 97), some (.int a1), some (.int a2), some (.int a3), some (.int (a4 + 1)), none, none] (q_subOk (And.intro rfl (And.intro rfl (And.intro rfl (And.intro rfl (And.intro rfl (trivial))))))) h
        · replace h := h.2 g4
          refine q_goto (pc := 111) 149 k119_111 (by decide) ?_
          refine q_iinc (pc := 149) (v := a4 + 1) [some (.ref 97), some (.int a1), some (.int a2), some (.int a3), some (.int (a4 + 1)), some (.int (((400 : Int32) * a1) + a4)), some (.int 1)] k119_149 rfl rfl rfl (by decide) rfl ?_
          refine q_goto (pc := 152) 19 k119_152 (by decide) ?_
          exact q_forget [some (.ref 97), some (.int a1), some (.int a2), some (.int a3), some (.int (a4 + 1)), none, none] (q_subOk (And.intro rfl (And.intro rfl (And.intro rfl (And.intro rfl (And.intro rfl (trivial))))))) h
    · replace h := h.2 g2
      refine q_iload_n (pc := 49) k119_49 rfl ?_
      refine q_aload_n (pc := 50) k119_50 rfl ?_
      refine q_getR (pc := 51) k119_51 fg119_37 rfl rfl ?_
      refine q_iload (pc := 54) k119_54 rfl ?_
      refine q_ialdv (pc := 56) (v := M 107 (Int32.toNatClampNeg (((400 : Int32) * a1) + a4))) k119_56 rfl h.1 rfl ?_
      replace h := h.2
      refine q_ishr (pc := 57) k119_57 ?_
      refine q_iconst (pc := 58) (v := 1) k119_58 (by decide) ?_
      refine q_iand (pc := 59) k119_59 ?_
      refine q_if_ne (pc := 60) 67 k119_60 (by decide) (fun g6 => ?_) (fun g6 => ?_)
      · replace h := h.1 g6
        refine q_iconst (pc := 67) (v := 0) k119_67 (by decide) ?_
        refine q_goto (pc := 68) 92 k119_68 (by decide) ?_
        refine q_istore (pc := 92) [some (.ref 97), some (.int a1), some (.int a2), some (.int a3), some (.int a4), some (.int (((400 : Int32) * a1) + a4)), some (.int 0)] k119_92 rfl (by decide) rfl ?_
        refine q_iload (pc := 94) k119_94 rfl ?_
        refine q_if_eq (pc := 96) 149 k119_96 (by decide) (fun _ => ?_) (fun g => absurd g (by decide))
        refine q_iinc (pc := 149) (v := a4 + 1) [some (.ref 97), some (.int a1), some (.int a2), some (.int a3), some (.int (a4 + 1)), some (.int (((400 : Int32) * a1) + a4)), some (.int 0)] k119_149 rfl rfl rfl (by decide) rfl ?_
        refine q_goto (pc := 152) 19 k119_152 (by decide) ?_
        exact q_forget [some (.ref 97), some (.int a1), some (.int a2), some (.int a3), some (.int (a4 + 1)), none, none] (q_subOk (And.intro rfl (And.intro rfl (And.intro rfl (And.intro rfl (And.intro rfl (trivial))))))) h
      · replace h := h.2 g6
        refine q_iconst (pc := 63) (v := 1) k119_63 (by decide) ?_
        refine q_goto (pc := 64) 92 k119_64 (by decide) ?_
        refine q_istore (pc := 92) [some (.ref 97), some (.int a1), some (.int a2), some (.int a3), some (.int a4), some (.int (((400 : Int32) * a1) + a4)), some (.int 1)] k119_92 rfl (by decide) rfl ?_
        refine q_iload (pc := 94) k119_94 rfl ?_
        refine q_if_eq (pc := 96) 149 k119_96 (by decide) (fun g => absurd g (by decide)) (fun _ => ?_)
        refine q_aload_n (pc := 99) k119_99 rfl ?_
        refine q_getR (pc := 100) k119_100 fg119_28 rfl rfl ?_
        refine q_iload (pc := 103) k119_103 rfl ?_
        refine q_ialdv (pc := 105) (v := M 104 (Int32.toNatClampNeg (((400 : Int32) * a1) + a4))) k119_105 rfl h.1 rfl ?_
        replace h := h.2
        refine q_iload_n (pc := 106) k119_106 rfl ?_
        refine q_iand (pc := 107) k119_107 ?_
        refine q_if_eq (pc := 108) 114 k119_108 (by decide) (fun g7 => ?_) (fun g7 => ?_)
        · replace h := h.1 g7
          refine q_aload_n (pc := 114) k119_114 rfl ?_
          refine q_getR (pc := 115) k119_115 fg119_46 rfl rfl ?_
          refine q_iload_n (pc := 118) k119_118 rfl ?_
          refine q_iload (pc := 119) k119_119 rfl ?_
          refine q_iastv (pc := 121) (k := (Int32.toNatClampNeg a1)) k119_121 rfl h.1 rfl ?_
          replace h := h.2
          refine q_aload_n (pc := 122) k119_122 rfl ?_
          refine q_iload_n (pc := 123) k119_123 rfl ?_
          refine q_iconst (pc := 124) (v := 1) k119_124 (by decide) ?_
          refine q_iadd (pc := 125) k119_125 ?_
          refine q_iload_n (pc := 126) k119_126 rfl ?_
          refine q_aload_n (pc := 127) k119_127 rfl ?_
          refine q_getR (pc := 128) k119_128 fg119_28 rfl rfl ?_
          refine q_iload (pc := 131) k119_131 rfl ?_
          refine q_ialdv (pc := 133) (v := M 104 (Int32.toNatClampNeg (((400 : Int32) * a1) + a4))) k119_133 rfl h.1 rfl ?_
          replace h := h.2
          refine q_ior (pc := 134) k119_134 ?_
          refine q_iload_n (pc := 135) k119_135 rfl ?_
          refine q_iconst (pc := 136) (v := 1) k119_136 (by decide) ?_
          refine q_aload_n (pc := 137) k119_137 rfl ?_
          refine q_getR (pc := 138) k119_138 fg119_37 rfl rfl ?_
          refine q_iload (pc := 141) k119_141 rfl ?_
          refine q_ialdv (pc := 143) (v := M 107 (Int32.toNatClampNeg (((400 : Int32) * a1) + a4))) k119_143 rfl h.1 rfl ?_
          replace h := h.2
          refine q_ishl (pc := 144) k119_144 ?_
          refine q_ior (pc := 145) k119_145 ?_
          refine q_invV (pc := 146) (As := [.int (a1 + 1), .int (a2 ||| (M 104 (Int32.toNatClampNeg (((400 : Int32) * a1) + a4)))), .int (a3 ||| ((1 : Int32) <<< ((M 107 (Int32.toNatClampNeg (((400 : Int32) * a1) + a4))) &&& 31)))]) (st := []) k119_146 lm119_157 ov119 rfl rfl rfl (q_cat rfl) (Nat.le_of_ble_eq_true rfl) hd h ?_
          rintro v M8 ⟨rfl, h⟩
          show q_Ex X d 119 (146 + 3) [some (.ref 97), some (.int a1), some (.int a2), some (.int a3), some (.int a4), some (.int (((400 : Int32) * a1) + a4)), some (.int 1)] [] M8 _
          refine q_iinc (pc := 149) (v := a4 + 1) [some (.ref 97), some (.int a1), some (.int a2), some (.int a3), some (.int (a4 + 1)), some (.int (((400 : Int32) * a1) + a4)), some (.int 1)] k119_149 rfl rfl rfl (by decide) rfl ?_
          refine q_goto (pc := 152) 19 k119_152 (by decide) ?_
          exact q_forget [some (.ref 97), some (.int a1), some (.int a2), some (.int a3), some (.int (a4 + 1)), none, none] (q_subOk (And.intro rfl (And.intro rfl (And.intro rfl (And.intro rfl (And.intro rfl (trivial))))))) h
        · replace h := h.2 g7
          refine q_goto (pc := 111) 149 k119_111 (by decide) ?_
          refine q_iinc (pc := 149) (v := a4 + 1) [some (.ref 97), some (.int a1), some (.int a2), some (.int a3), some (.int (a4 + 1)), some (.int (((400 : Int32) * a1) + a4)), some (.int 1)] k119_149 rfl rfl rfl (by decide) rfl ?_
          refine q_goto (pc := 152) 19 k119_152 (by decide) ?_
          exact q_forget [some (.ref 97), some (.int a1), some (.int a2), some (.int a3), some (.int (a4 + 1)), none, none] (q_subOk (And.intro rfl (And.intro rfl (And.intro rfl (And.intro rfl (And.intro rfl (trivial))))))) h
set_option maxRecDepth 20000 in
theorem vc120 {X : Nat × (Nat → Int32)} {d : Nat} (hd : 0 < d) {M : q_M} {a1 : Int32} {K : q_M → Prop} (h : q_Cv X (d - 1) 113 [.ref 97] M (fun M1 => q_Ex X d 120 32 [some (.ref 97), none, some (.int 0)] [] (q_set (q_set (q_set (q_set (q_set M1 97 20 0) 97 21 (-9)) 97 22 0) 97 23 a1) 97 24 0) (q_rn K))) : q_Cv X d 120 [.ref 97, .int a1] M K := by
  show q_Ex X d 120 0 [some (.ref 97), some (.int a1), none] [] M (q_rn K)
  refine q_aload_n (pc := 0) k120_0 rfl ?_
  refine q_invV (pc := 1) (As := []) (st := []) k120_1 lm120_161 ov113 rfl rfl rfl (q_cat rfl) (Nat.le_of_ble_eq_true rfl) hd h ?_
  rintro v M1 ⟨rfl, h⟩
  show q_Ex X d 120 (1 + 3) [some (.ref 97), some (.int a1), none] [] M1 _
  refine q_aload_n (pc := 4) k120_4 rfl ?_
  refine q_iconst (pc := 5) (v := 0) k120_5 (by decide) ?_
  refine q_putI (pc := 6) k120_6 fp120_147 rfl rfl ?_
  refine q_aload_n (pc := 9) k120_9 rfl ?_
  refine q_bipush (pc := 10) (v := (-9)) k120_10 (by decide) ?_
  refine q_putI (pc := 12) k120_12 fp120_138 rfl rfl ?_
  refine q_aload_n (pc := 15) k120_15 rfl ?_
  refine q_iconst (pc := 16) (v := 0) k120_16 (by decide) ?_
  refine q_putI (pc := 17) k120_17 fp120_144 rfl rfl ?_
  refine q_aload_n (pc := 20) k120_20 rfl ?_
  refine q_iload_n (pc := 21) k120_21 rfl ?_
  refine q_putI (pc := 22) k120_22 fp120_150 rfl rfl ?_
  refine q_aload_n (pc := 25) k120_25 rfl ?_
  refine q_iconst (pc := 26) (v := 0) k120_26 (by decide) ?_
  refine q_putI (pc := 27) k120_27 fp120_141 rfl rfl ?_
  refine q_iconst (pc := 30) (v := 0) k120_30 (by decide) ?_
  refine q_istore_n (pc := 31) [some (.ref 97), some (.int a1), some (.int 0)] k120_31 rfl (by decide) rfl ?_
  exact q_forget [some (.ref 97), none, some (.int 0)] (q_subOk (And.intro rfl (And.intro rfl (trivial)))) h
set_option maxRecDepth 20000 in
theorem vc120_p32 {X : Nat × (Nat → Int32)} {d : Nat} {M : q_M} {a2 : Int32} {K : q_M → Prop} (h : (((M 99 7) ≤ a2) → (q_Ex X d 120 71 [some (.ref 97), none, some (.int 0)] [] M (q_rn K))) ∧ ((¬ (M 99 7) ≤ a2) → (vp_in ((8 : Int32) + a2) 135 ∧ (q_Ex X d 120 32 [some (.ref 97), none, some (.int (a2 + 1))] [] (q_set M 97 24 ((M 97 24) ||| ((1 : Int32) <<< ((M 99 (Int32.toNatClampNeg ((8 : Int32) + a2))) &&& 31)))) (q_rn K))))) : q_Ex X d 120 32 [some (.ref 97), none, some (.int a2)] [] M (q_rn K) := by
  refine q_iload_n (pc := 32) k120_32 rfl ?_
  refine q_aload_n (pc := 33) k120_33 rfl ?_
  refine q_getR (pc := 34) k120_34 fg120_13 rfl rfl ?_
  refine q_bipush (pc := 37) (v := 7) k120_37 (by decide) ?_
  refine q_ialdv (pc := 39) (v := M 99 7) k120_39 rfl (q_vin (by decide)) rfl ?_
  refine q_icmp_ge (pc := 40) 69 k120_40 (by decide) (fun g1 => ?_) (fun g1 => ?_)
  · replace h := h.1 g1
    refine q_iconst (pc := 69) (v := 0) k120_69 (by decide) ?_
    refine q_istore_n (pc := 70) [some (.ref 97), none, some (.int 0)] k120_70 rfl (by decide) rfl ?_
    exact h
  · replace h := h.2 g1
    refine q_aload_n (pc := 43) k120_43 rfl ?_
    refine q_dup (pc := 44) k120_44 rfl ?_
    refine q_getIv (pc := 45) (v := M 97 24) k120_45 fg120_141 rfl rfl rfl ?_
    refine q_iconst (pc := 48) (v := 1) k120_48 (by decide) ?_
    refine q_aload_n (pc := 49) k120_49 rfl ?_
    refine q_getR (pc := 50) k120_50 fg120_13 rfl rfl ?_
    refine q_bipush (pc := 53) (v := 8) k120_53 (by decide) ?_
    refine q_iload_n (pc := 55) k120_55 rfl ?_
    refine q_iadd (pc := 56) k120_56 ?_
    refine q_ialdv (pc := 57) (v := M 99 (Int32.toNatClampNeg ((8 : Int32) + a2))) k120_57 rfl h.1 rfl ?_
    replace h := h.2
    refine q_ishl (pc := 58) k120_58 ?_
    refine q_ior (pc := 59) k120_59 ?_
    refine q_putI (pc := 60) k120_60 fp120_141 rfl rfl ?_
    refine q_iinc (pc := 63) (v := a2 + 1) [some (.ref 97), none, some (.int (a2 + 1))] k120_63 rfl rfl rfl (by decide) rfl ?_
    refine q_goto (pc := 66) 32 k120_66 (by decide) ?_
    exact h
set_option maxRecDepth 20000 in
theorem vc120_p71 {X : Nat × (Nat → Int32)} {d : Nat} (hd : 0 < d) {M : q_M} {a2 : Int32} {K : q_M → Prop} (h : ((30 ≤ a2) → (q_Cv X (d - 1) 119 [.ref 97, .int 0, .int 0, .int 0] M (fun M2 => K M2))) ∧ ((¬ 30 ≤ a2) → (vp_in a2 30 ∧ (vp_in a2 30 ∧ (q_Ex X d 120 71 [some (.ref 97), none, some (.int (a2 + 1))] [] (q_set (q_set M 112 (Int32.toNatClampNeg a2) 0) 113 (Int32.toNatClampNeg a2) 0) (q_rn K)))))) : q_Ex X d 120 71 [some (.ref 97), none, some (.int a2)] [] M (q_rn K) := by
  refine q_iload_n (pc := 71) k120_71 rfl ?_
  refine q_bipush (pc := 72) (v := 30) k120_72 (by decide) ?_
  refine q_icmp_ge (pc := 74) 97 k120_74 (by decide) (fun g1 => ?_) (fun g1 => ?_)
  · replace h := h.1 g1
    refine q_aload_n (pc := 97) k120_97 rfl ?_
    refine q_iconst (pc := 98) (v := 0) k120_98 (by decide) ?_
    refine q_iconst (pc := 99) (v := 0) k120_99 (by decide) ?_
    refine q_iconst (pc := 100) (v := 0) k120_100 (by decide) ?_
    refine q_invV (pc := 101) (As := [.int 0, .int 0, .int 0]) (st := []) k120_101 lm120_157 ov119 rfl rfl rfl (q_cat rfl) (Nat.le_of_ble_eq_true rfl) hd h ?_
    rintro v M2 ⟨rfl, h⟩
    show q_Ex X d 120 (101 + 3) [some (.ref 97), none, some (.int a2)] [] M2 _
    exact q_return (pc := 104) k120_104 rfl ⟨rfl, h⟩
  · replace h := h.2 g1
    refine q_aload_n (pc := 77) k120_77 rfl ?_
    refine q_getR (pc := 78) k120_78 fg120_52 rfl rfl ?_
    refine q_iload_n (pc := 81) k120_81 rfl ?_
    refine q_iconst (pc := 82) (v := 0) k120_82 (by decide) ?_
    refine q_iastv (pc := 83) (k := (Int32.toNatClampNeg a2)) k120_83 rfl h.1 rfl ?_
    replace h := h.2
    refine q_aload_n (pc := 84) k120_84 rfl ?_
    refine q_getR (pc := 85) k120_85 fg120_55 rfl rfl ?_
    refine q_iload_n (pc := 88) k120_88 rfl ?_
    refine q_iconst (pc := 89) (v := 0) k120_89 (by decide) ?_
    refine q_iastv (pc := 90) (k := (Int32.toNatClampNeg a2)) k120_90 rfl h.1 rfl ?_
    replace h := h.2
    refine q_iinc (pc := 91) (v := a2 + 1) [some (.ref 97), none, some (.int (a2 + 1))] k120_91 rfl rfl rfl (by decide) rfl ?_
    refine q_goto (pc := 94) 71 k120_94 (by decide) ?_
    exact h
set_option maxRecDepth 20000 in
theorem vc121 {X : Nat × (Nat → Int32)} {d : Nat} {M : q_M} {a1 a2 : Int32} {K : Int32 → q_M → Prop} (h : ((¬ a1 = 1) → (((¬ a1 = 2) → (((¬ a1 = 3) → (((¬ a1 = 0) → (vp_in ((4 : Int32) + a2) 135 ∧ (K (M 99 (Int32.toNatClampNeg ((4 : Int32) + a2))) M))) ∧ ((a1 = 0) → (K a2 M)))) ∧ ((a1 = 3) → (K (-9) M)))) ∧ ((a1 = 2) → (¬ (M 99 2) = 0 ∧ (K ((a2 + 1) - (a2 + 1) / (M 99 2) * (M 99 2)) M))))) ∧ ((a1 = 1) → (K (((M 99 2) - 1) - a2) M))) : q_Ci X d 121 [.ref 97, .int a1, .int a2] M K := by
  show q_Ex X d 121 0 [some (.ref 97), some (.int a1), some (.int a2), none] [] M (q_ri K)
  refine q_aload_n (pc := 0) k121_0 rfl ?_
  refine q_getR (pc := 1) k121_1 fg121_13 rfl rfl ?_
  refine q_iconst (pc := 4) (v := 2) k121_4 (by decide) ?_
  refine q_ialdv (pc := 5) (v := M 99 2) k121_5 rfl (q_vin (by decide)) rfl ?_
  refine q_istore_n (pc := 6) [some (.ref 97), some (.int a1), some (.int a2), some (.int (M 99 2))] k121_6 rfl (by decide) rfl ?_
  refine q_iload_n (pc := 7) k121_7 rfl ?_
  refine q_iconst (pc := 8) (v := 1) k121_8 (by decide) ?_
  refine q_icmp_ne (pc := 9) 20 k121_9 (by decide) (fun g1 => ?_) (fun g1 => ?_)
  · replace h := h.1 g1
    refine q_iload_n (pc := 20) k121_20 rfl ?_
    refine q_iconst (pc := 21) (v := 2) k121_21 (by decide) ?_
    refine q_icmp_ne (pc := 22) 33 k121_22 (by decide) (fun g2 => ?_) (fun g2 => ?_)
    · replace h := h.1 g2
      refine q_iload_n (pc := 33) k121_33 rfl ?_
      refine q_iconst (pc := 34) (v := 3) k121_34 (by decide) ?_
      refine q_icmp_ne (pc := 35) 43 k121_35 (by decide) (fun g3 => ?_) (fun g3 => ?_)
      · replace h := h.1 g3
        refine q_iload_n (pc := 43) k121_43 rfl ?_
        refine q_if_ne (pc := 44) 51 k121_44 (by decide) (fun g4 => ?_) (fun g4 => ?_)
        · replace h := h.1 g4
          refine q_aload_n (pc := 51) k121_51 rfl ?_
          refine q_getR (pc := 52) k121_52 fg121_13 rfl rfl ?_
          refine q_iconst (pc := 55) (v := 4) k121_55 (by decide) ?_
          refine q_iload_n (pc := 56) k121_56 rfl ?_
          refine q_iadd (pc := 57) k121_57 ?_
          refine q_ialdv (pc := 58) (v := M 99 (Int32.toNatClampNeg ((4 : Int32) + a2))) k121_58 rfl h.1 rfl ?_
          replace h := h.2
          exact q_ireturn (pc := 59) k121_59 rfl ⟨_, rfl, h⟩
        · replace h := h.2 g4
          refine q_iload_n (pc := 47) k121_47 rfl ?_
          refine q_goto (pc := 48) 59 k121_48 (by decide) ?_
          exact q_ireturn (pc := 59) k121_59 rfl ⟨_, rfl, h⟩
      · replace h := h.2 g3
        refine q_bipush (pc := 38) (v := (-9)) k121_38 (by decide) ?_
        refine q_goto (pc := 40) 59 k121_40 (by decide) ?_
        exact q_ireturn (pc := 59) k121_59 rfl ⟨_, rfl, h⟩
    · replace h := h.2 g2
      refine q_iload_n (pc := 25) k121_25 rfl ?_
      refine q_iconst (pc := 26) (v := 1) k121_26 (by decide) ?_
      refine q_iadd (pc := 27) k121_27 ?_
      refine q_iload_n (pc := 28) k121_28 rfl ?_
      refine q_irem (pc := 29) k121_29 h.1 ?_
      replace h := h.2
      refine q_goto (pc := 30) 59 k121_30 (by decide) ?_
      exact q_ireturn (pc := 59) k121_59 rfl ⟨_, rfl, h⟩
  · replace h := h.2 g1
    refine q_iload_n (pc := 12) k121_12 rfl ?_
    refine q_iconst (pc := 13) (v := 1) k121_13 (by decide) ?_
    refine q_isub (pc := 14) k121_14 ?_
    refine q_iload_n (pc := 15) k121_15 rfl ?_
    refine q_isub (pc := 16) k121_16 ?_
    refine q_goto (pc := 17) 59 k121_17 (by decide) ?_
    exact q_ireturn (pc := 59) k121_59 rfl ⟨_, rfl, h⟩
set_option maxRecDepth 20000 in
theorem vc122 {X : Nat × (Nat → Int32)} {d : Nat} {M : q_M} {a1 : Int32} {K : q_M → Prop} (h : q_Ex X d 122 2 [some (.ref 97), some (.int a1), some (.int 0)] [] M (q_rn K)) : q_Cv X d 122 [.ref 97, .int a1] M K := by
  show q_Ex X d 122 0 [some (.ref 97), some (.int a1), none] [] M (q_rn K)
  refine q_iconst (pc := 0) (v := 0) k122_0 (by decide) ?_
  refine q_istore_n (pc := 1) [some (.ref 97), some (.int a1), some (.int 0)] k122_1 rfl (by decide) rfl ?_
  exact h
set_option maxRecDepth 20000 in
theorem vc122_p2 {X : Nat × (Nat → Int32)} {d : Nat} (hd : 0 < d) {M : q_M} {a1 a2 : Int32} {K : q_M → Prop} (h : (((M 99 2) ≤ a2) → (q_Cv X (d - 1) 120 [.ref 97, .int a1] M (fun M2 => K M2))) ∧ ((¬ (M 99 2) ≤ a2) → (q_Ci X (d - 1) 121 [.ref 97, .int (M 99 3), .int a2] M (fun r4 M3 => vp_in a2 3 ∧ (q_Ex X d 122 2 [some (.ref 97), some (.int a1), some (.int (a2 + 1))] [] (q_set M3 109 (Int32.toNatClampNeg a2) r4) (q_rn K)))))) : q_Ex X d 122 2 [some (.ref 97), some (.int a1), some (.int a2)] [] M (q_rn K) := by
  refine q_iload_n (pc := 2) k122_2 rfl ?_
  refine q_aload_n (pc := 3) k122_3 rfl ?_
  refine q_getR (pc := 4) k122_4 fg122_13 rfl rfl ?_
  refine q_iconst (pc := 7) (v := 2) k122_7 (by decide) ?_
  refine q_ialdv (pc := 8) (v := M 99 2) k122_8 rfl (q_vin (by decide)) rfl ?_
  refine q_icmp_ge (pc := 9) 35 k122_9 (by decide) (fun g1 => ?_) (fun g1 => ?_)
  · replace h := h.1 g1
    refine q_aload_n (pc := 35) k122_35 rfl ?_
    refine q_iload_n (pc := 36) k122_36 rfl ?_
    refine q_invV (pc := 37) (As := [.int a1]) (st := []) k122_37 lm122_167 ov120 rfl rfl rfl (q_cat rfl) (Nat.le_of_ble_eq_true rfl) hd h ?_
    rintro v M2 ⟨rfl, h⟩
    show q_Ex X d 122 (37 + 3) [some (.ref 97), some (.int a1), some (.int a2)] [] M2 _
    exact q_return (pc := 40) k122_40 rfl ⟨rfl, h⟩
  · replace h := h.2 g1
    refine q_aload_n (pc := 12) k122_12 rfl ?_
    refine q_getR (pc := 13) k122_13 fg122_43 rfl rfl ?_
    refine q_iload_n (pc := 16) k122_16 rfl ?_
    refine q_aload_n (pc := 17) k122_17 rfl ?_
    refine q_aload_n (pc := 18) k122_18 rfl ?_
    refine q_getR (pc := 19) k122_19 fg122_13 rfl rfl ?_
    refine q_iconst (pc := 22) (v := 3) k122_22 (by decide) ?_
    refine q_ialdv (pc := 23) (v := M 99 3) k122_23 rfl (q_vin (by decide)) rfl ?_
    refine q_iload_n (pc := 24) k122_24 rfl ?_
    refine q_invV (pc := 25) (As := [.int (M 99 3), .int a2]) (st := [.int a2, .ref 109]) k122_25 lm122_164 ov121 rfl rfl rfl (q_cat rfl) (Nat.le_of_ble_eq_true rfl) hd h ?_
    rintro v M3 ⟨r4, rfl, h⟩
    show q_Ex X d 122 (25 + 3) [some (.ref 97), some (.int a1), some (.int a2)] [.int r4, .int a2, .ref 109] M3 _
    refine q_iastv (pc := 28) (k := (Int32.toNatClampNeg a2)) k122_28 rfl h.1 rfl ?_
    replace h := h.2
    refine q_iinc (pc := 29) (v := a2 + 1) [some (.ref 97), some (.int a1), some (.int (a2 + 1))] k122_29 rfl rfl rfl (by decide) rfl ?_
    refine q_goto (pc := 32) 2 k122_32 (by decide) ?_
    exact h
set_option maxRecDepth 20000 in
theorem vc123 {X : Nat × (Nat → Int32)} {d : Nat} {M : q_M} {K : Int32 → q_M → Prop} (h : q_Ex X d 123 2 [some (.ref 97), some (.int 0)] [] M (q_ri K)) : q_Ci X d 123 [.ref 97] M K := by
  show q_Ex X d 123 0 [some (.ref 97), none] [] M (q_ri K)
  refine q_iconst (pc := 0) (v := 0) k123_0 (by decide) ?_
  refine q_istore_n (pc := 1) [some (.ref 97), some (.int 0)] k123_1 rfl (by decide) rfl ?_
  exact h
set_option maxRecDepth 20000 in
theorem vc123_p2 {X : Nat × (Nat → Int32)} {d : Nat} (hd : 0 < d) {M : q_M} {a1 : Int32} {K : Int32 → q_M → Prop} (h : (((M 99 2) ≤ a1) → (q_Cv X (d - 1) 120 [.ref 97, .int (-9)] M (fun M2 => K (M2 97 20) M2))) ∧ ((¬ (M 99 2) ≤ a1) → (vp_in a1 3 ∧ (vp_in a1 3 ∧ (q_Ex X d 123 2 [some (.ref 97), some (.int (a1 + 1))] [] (q_set M 109 (Int32.toNatClampNeg a1) (M 103 (Int32.toNatClampNeg a1))) (q_ri K)))))) : q_Ex X d 123 2 [some (.ref 97), some (.int a1)] [] M (q_ri K) := by
  refine q_iload_n (pc := 2) k123_2 rfl ?_
  refine q_aload_n (pc := 3) k123_3 rfl ?_
  refine q_getR (pc := 4) k123_4 fg123_13 rfl rfl ?_
  refine q_iconst (pc := 7) (v := 2) k123_7 (by decide) ?_
  refine q_ialdv (pc := 8) (v := M 99 2) k123_8 rfl (q_vin (by decide)) rfl ?_
  refine q_icmp_ge (pc := 9) 30 k123_9 (by decide) (fun g1 => ?_) (fun g1 => ?_)
  · replace h := h.1 g1
    refine q_aload_n (pc := 30) k123_30 rfl ?_
    refine q_bipush (pc := 31) (v := (-9)) k123_31 (by decide) ?_
    refine q_invV (pc := 33) (As := [.int (-9)]) (st := []) k123_33 lm123_167 ov120 rfl rfl rfl (q_cat rfl) (Nat.le_of_ble_eq_true rfl) hd h ?_
    rintro v M2 ⟨rfl, h⟩
    show q_Ex X d 123 (33 + 3) [some (.ref 97), some (.int a1)] [] M2 _
    refine q_aload_n (pc := 36) k123_36 rfl ?_
    refine q_getIv (pc := 37) (v := M2 97 20) k123_37 fg123_147 rfl rfl rfl ?_
    exact q_ireturn (pc := 40) k123_40 rfl ⟨_, rfl, h⟩
  · replace h := h.2 g1
    refine q_aload_n (pc := 12) k123_12 rfl ?_
    refine q_getR (pc := 13) k123_13 fg123_43 rfl rfl ?_
    refine q_iload_n (pc := 16) k123_16 rfl ?_
    refine q_aload_n (pc := 17) k123_17 rfl ?_
    refine q_getR (pc := 18) k123_18 fg123_25 rfl rfl ?_
    refine q_iload_n (pc := 21) k123_21 rfl ?_
    refine q_ialdv (pc := 22) (v := M 103 (Int32.toNatClampNeg a1)) k123_22 rfl h.1 rfl ?_
    replace h := h.2
    refine q_iastv (pc := 23) (k := (Int32.toNatClampNeg a1)) k123_23 rfl h.1 rfl ?_
    replace h := h.2
    refine q_iinc (pc := 24) (v := a1 + 1) [some (.ref 97), some (.int (a1 + 1))] k123_24 rfl rfl rfl (by decide) rfl ?_
    refine q_goto (pc := 27) 2 k123_27 (by decide) ?_
    exact h
set_option maxRecDepth 20000 in
theorem vc124 {X : Nat × (Nat → Int32)} {d : Nat} {M : q_M} {K : Int32 → q_M → Prop} (h : (((M 99 0) ≤ 0) → (K 0 M)) ∧ ((¬ (M 99 0) ≤ 0) → (K 1 M))) : q_Ci X d 124 [.ref 97] M K := by
  show q_Ex X d 124 0 [some (.ref 97)] [] M (q_ri K)
  refine q_aload_n (pc := 0) k124_0 rfl ?_
  refine q_getR (pc := 1) k124_1 fg124_13 rfl rfl ?_
  refine q_iconst (pc := 4) (v := 0) k124_4 (by decide) ?_
  refine q_ialdv (pc := 5) (v := M 99 0) k124_5 rfl (q_vin (by decide)) rfl ?_
  refine q_if_le (pc := 6) 13 k124_6 (by decide) (fun g1 => ?_) (fun g1 => ?_)
  · replace h := h.1 g1
    refine q_iconst (pc := 13) (v := 0) k124_13 (by decide) ?_
    exact q_zreturn (pc := 14) k124_14 rfl (by decide) ⟨_, rfl, h⟩
  · replace h := h.2 g1
    refine q_iconst (pc := 9) (v := 1) k124_9 (by decide) ?_
    refine q_goto (pc := 10) 14 k124_10 (by decide) ?_
    exact q_zreturn (pc := 14) k124_14 rfl (by decide) ⟨_, rfl, h⟩
set_option maxRecDepth 20000 in
theorem vc125 {X : Nat × (Nat → Int32)} {d : Nat} (hd : 0 < d) {M : q_M} {K : Int32 → q_M → Prop} (h : q_Cv X (d - 1) 122 [.ref 97, .int (-9)] M (fun M1 => K (M1 97 20) M1)) : q_Ci X d 125 [.ref 97] M K := by
  show q_Ex X d 125 0 [some (.ref 97)] [] M (q_ri K)
  refine q_aload_n (pc := 0) k125_0 rfl ?_
  refine q_bipush (pc := 1) (v := (-9)) k125_1 (by decide) ?_
  refine q_invV (pc := 3) (As := [.int (-9)]) (st := []) k125_3 lm125_170 ov122 rfl rfl rfl (q_cat rfl) (Nat.le_of_ble_eq_true rfl) hd h ?_
  rintro v M1 ⟨rfl, h⟩
  show q_Ex X d 125 (3 + 3) [some (.ref 97)] [] M1 _
  refine q_aload_n (pc := 6) k125_6 rfl ?_
  refine q_getIv (pc := 7) (v := M1 97 20) k125_7 fg125_147 rfl rfl rfl ?_
  exact q_ireturn (pc := 10) k125_10 rfl ⟨_, rfl, h⟩
set_option maxRecDepth 20000 in
theorem vc126 {X : Nat × (Nat → Int32)} {d : Nat} (hd : 0 < d) {M : q_M} {K : Int32 → q_M → Prop} (h : q_Ci X (d - 1) 124 [.ref 97] M (fun r2 M1 => ((r2 = 0) → (q_Ci X (d - 1) 91 [.ref 97, .int (-3)] M1 (fun r5 M4 => K r5 M4))) ∧ ((¬ r2 = 0) → (q_Ci X (d - 1) 125 [.ref 97] M1 (fun r7 M6 => K r7 M6))))) : q_Ci X d 126 [.ref 97] M K := by
  show q_Ex X d 126 0 [some (.ref 97)] [] M (q_ri K)
  refine q_aload_n (pc := 0) k126_0 rfl ?_
  refine q_invV (pc := 1) (As := []) (st := []) k126_1 lm126_173 ov124 rfl rfl rfl (q_cat rfl) (Nat.le_of_ble_eq_true rfl) hd h ?_
  rintro v M1 ⟨r2, rfl, h⟩
  show q_Ex X d 126 (1 + 3) [some (.ref 97)] [.int r2] M1 _
  refine q_if_eq (pc := 4) 14 k126_4 (by decide) (fun g3 => ?_) (fun g3 => ?_)
  · replace h := h.1 g3
    refine q_aload_n (pc := 14) k126_14 rfl ?_
    refine q_bipush (pc := 15) (v := (-3)) k126_15 (by decide) ?_
    refine q_invV (pc := 17) (As := [.int (-3)]) (st := []) k126_17 lm126_80 ov91 rfl rfl rfl (q_cat rfl) (Nat.le_of_ble_eq_true rfl) hd h ?_
    rintro v M4 ⟨r5, rfl, h⟩
    show q_Ex X d 126 (17 + 3) [some (.ref 97)] [.int r5] M4 _
    exact q_ireturn (pc := 20) k126_20 rfl ⟨_, rfl, h⟩
  · replace h := h.2 g3
    refine q_aload_n (pc := 7) k126_7 rfl ?_
    refine q_invV (pc := 8) (As := []) (st := []) k126_8 lm126_177 ov125 rfl rfl rfl (q_cat rfl) (Nat.le_of_ble_eq_true rfl) hd h ?_
    rintro v M6 ⟨r7, rfl, h⟩
    show q_Ex X d 126 (8 + 3) [some (.ref 97)] [.int r7] M6 _
    refine q_goto (pc := 11) 20 k126_11 (by decide) ?_
    exact q_ireturn (pc := 20) k126_20 rfl ⟨_, rfl, h⟩
set_option maxRecDepth 20000 in
theorem vc127 {X : Nat × (Nat → Int32)} {d : Nat} {M : q_M} {a1 a2 : Int32} {K : Int32 → q_M → Prop} (h : ((¬ a1 = (M 99 2)) → (q_Ex X d 127 17 [some (.ref 97), some (.int a1), some (.int a2), some (.int 0), some (.int 0), none, none, none] [] M (q_ri K))) ∧ ((a1 = (M 99 2)) → (K 1 M))) : q_Ci X d 127 [.ref 97, .int a1, .int a2] M K := by
  show q_Ex X d 127 0 [some (.ref 97), some (.int a1), some (.int a2), none, none, none, none, none] [] M (q_ri K)
  refine q_iload_n (pc := 0) k127_0 rfl ?_
  refine q_aload_n (pc := 1) k127_1 rfl ?_
  refine q_getR (pc := 2) k127_2 fg127_13 rfl rfl ?_
  refine q_iconst (pc := 5) (v := 2) k127_5 (by decide) ?_
  refine q_ialdv (pc := 6) (v := M 99 2) k127_6 rfl (q_vin (by decide)) rfl ?_
  refine q_icmp_ne (pc := 7) 12 k127_7 (by decide) (fun g1 => ?_) (fun g1 => ?_)
  · replace h := h.1 g1
    refine q_iconst (pc := 12) (v := 0) k127_12 (by decide) ?_
    refine q_istore_n (pc := 13) [some (.ref 97), some (.int a1), some (.int a2), some (.int 0), none, none, none, none] k127_13 rfl (by decide) rfl ?_
    refine q_iconst (pc := 14) (v := 0) k127_14 (by decide) ?_
    refine q_istore (pc := 15) [some (.ref 97), some (.int a1), some (.int a2), some (.int 0), some (.int 0), none, none, none] k127_15 rfl (by decide) rfl ?_
    exact h
  · replace h := h.2 g1
    refine q_iconst (pc := 10) (v := 1) k127_10 (by decide) ?_
    exact q_ireturn (pc := 11) k127_11 rfl ⟨_, rfl, h⟩
set_option maxRecDepth 20000 in
theorem vc127_p17 {X : Nat × (Nat → Int32)} {d : Nat} (hd : 0 < d) {M : q_M} {a1 a2 a3 a4 : Int32} {K : Int32 → q_M → Prop} (h : (((M 99 2) ≤ a4) → (K a3 M)) ∧ ((¬ (M 99 2) ≤ a4) → (((¬ ((a2 >>> (a4 &&& 31)) &&& 1) = 1) → (q_Ci X (d - 1) 115 [.ref 97, .int a1, .int a4] M (fun r4 M3 => q_Ci X (d - 1) 127 [.ref 97, .int (a1 + 1), .int (a2 ||| ((1 : Int32) <<< (a4 &&& 31)))] M3 (fun r6 M5 => ((¬ ((((a2 >>> ((a4 + 1) &&& 31)) &&& 1) + (((a2 >>> ((a4 + 1) &&& 31)) >>> ((1 : Int32) &&& 31)) &&& 1)) - (((a2 >>> ((a4 + 1) &&& 31)) &&& 1) + (((a2 >>> ((a4 + 1) &&& 31)) >>> ((1 : Int32) &&& 31)) &&& 1)) / 2 * 2) = 0) → (q_Ex X d 127 17 [some (.ref 97), some (.int a1), some (.int a2), some (.int (a3 + (-(r4 * r6)))), some (.int (a4 + 1)), none, none, none] [] M5 (q_ri K))) ∧ ((((((a2 >>> ((a4 + 1) &&& 31)) &&& 1) + (((a2 >>> ((a4 + 1) &&& 31)) >>> ((1 : Int32) &&& 31)) &&& 1)) - (((a2 >>> ((a4 + 1) &&& 31)) &&& 1) + (((a2 >>> ((a4 + 1) &&& 31)) >>> ((1 : Int32) &&& 31)) &&& 1)) / 2 * 2) = 0) → (q_Ex X d 127 17 [some (.ref 97), some (.int a1), some (.int a2), some (.int (a3 + (r4 * r6))), some (.int (a4 + 1)), none, none, none] [] M5 (q_ri K))))))) ∧ ((((a2 >>> (a4 &&& 31)) &&& 1) = 1) → (q_Ex X d 127 17 [some (.ref 97), some (.int a1), some (.int a2), some (.int a3), some (.int (a4 + 1)), none, none, none] [] M (q_ri K)))))) : q_Ex X d 127 17 [some (.ref 97), some (.int a1), some (.int a2), some (.int a3), some (.int a4), none, none, none] [] M (q_ri K) := by
  refine q_iload (pc := 17) k127_17 rfl ?_
  refine q_aload_n (pc := 19) k127_19 rfl ?_
  refine q_getR (pc := 20) k127_20 fg127_13 rfl rfl ?_
  refine q_iconst (pc := 23) (v := 2) k127_23 (by decide) ?_
  refine q_ialdv (pc := 24) (v := M 99 2) k127_24 rfl (q_vin (by decide)) rfl ?_
  refine q_icmp_ge (pc := 25) 109 k127_25 (by decide) (fun g1 => ?_) (fun g1 => ?_)
  · replace h := h.1 g1
    refine q_iload_n (pc := 109) k127_109 rfl ?_
    exact q_ireturn (pc := 110) k127_110 rfl ⟨_, rfl, h⟩
  · replace h := h.2 g1
    refine q_iload_n (pc := 28) k127_28 rfl ?_
    refine q_iload (pc := 29) k127_29 rfl ?_
    refine q_ishr (pc := 31) k127_31 ?_
    refine q_iconst (pc := 32) (v := 1) k127_32 (by decide) ?_
    refine q_iand (pc := 33) k127_33 ?_
    refine q_iconst (pc := 34) (v := 1) k127_34 (by decide) ?_
    refine q_icmp_ne (pc := 35) 41 k127_35 (by decide) (fun g2 => ?_) (fun g2 => ?_)
    · replace h := h.1 g2
      refine q_iload_n (pc := 41) k127_41 rfl ?_
      refine q_iload (pc := 42) k127_42 rfl ?_
      refine q_iconst (pc := 44) (v := 1) k127_44 (by decide) ?_
      refine q_iadd (pc := 45) k127_45 ?_
      refine q_ishr (pc := 46) k127_46 ?_
      refine q_istore (pc := 47) [some (.ref 97), some (.int a1), some (.int a2), some (.int a3), some (.int a4), some (.int (a2 >>> ((a4 + 1) &&& 31))), none, none] k127_47 rfl (by decide) rfl ?_
      refine q_iload (pc := 49) k127_49 rfl ?_
      refine q_iconst (pc := 51) (v := 1) k127_51 (by decide) ?_
      refine q_iand (pc := 52) k127_52 ?_
      refine q_iload (pc := 53) k127_53 rfl ?_
      refine q_iconst (pc := 55) (v := 1) k127_55 (by decide) ?_
      refine q_ishr (pc := 56) k127_56 ?_
      refine q_iconst (pc := 57) (v := 1) k127_57 (by decide) ?_
      refine q_iand (pc := 58) k127_58 ?_
      refine q_iadd (pc := 59) k127_59 ?_
      refine q_istore (pc := 60) [some (.ref 97), some (.int a1), some (.int a2), some (.int a3), some (.int a4), some (.int (a2 >>> ((a4 + 1) &&& 31))), some (.int (((a2 >>> ((a4 + 1) &&& 31)) &&& 1) + (((a2 >>> ((a4 + 1) &&& 31)) >>> ((1 : Int32) &&& 31)) &&& 1))), none] k127_60 rfl (by decide) rfl ?_
      refine q_aload_n (pc := 62) k127_62 rfl ?_
      refine q_iload_n (pc := 63) k127_63 rfl ?_
      refine q_iload (pc := 64) k127_64 rfl ?_
      refine q_invV (pc := 66) (As := [.int a1, .int a4]) (st := []) k127_66 lm127_129 ov115 rfl rfl rfl (q_cat rfl) (Nat.le_of_ble_eq_true rfl) hd h ?_
      rintro v M3 ⟨r4, rfl, h⟩
      show q_Ex X d 127 (66 + 3) [some (.ref 97), some (.int a1), some (.int a2), some (.int a3), some (.int a4), some (.int (a2 >>> ((a4 + 1) &&& 31))), some (.int (((a2 >>> ((a4 + 1) &&& 31)) &&& 1) + (((a2 >>> ((a4 + 1) &&& 31)) >>> ((1 : Int32) &&& 31)) &&& 1))), none] [.int r4] M3 _
      refine q_aload_n (pc := 69) k127_69 rfl ?_
      refine q_iload_n (pc := 70) k127_70 rfl ?_
      refine q_iconst (pc := 71) (v := 1) k127_71 (by decide) ?_
      refine q_iadd (pc := 72) k127_72 ?_
      refine q_iload_n (pc := 73) k127_73 rfl ?_
      refine q_iconst (pc := 74) (v := 1) k127_74 (by decide) ?_
      refine q_iload (pc := 75) k127_75 rfl ?_
      refine q_ishl (pc := 77) k127_77 ?_
      refine q_ior (pc := 78) k127_78 ?_
      refine q_invV (pc := 79) (As := [.int (a1 + 1), .int (a2 ||| ((1 : Int32) <<< (a4 &&& 31)))]) (st := [.int r4]) k127_79 lm127_180 ov127 rfl rfl rfl (q_cat rfl) (Nat.le_of_ble_eq_true rfl) hd h ?_
      rintro v M5 ⟨r6, rfl, h⟩
      show q_Ex X d 127 (79 + 3) [some (.ref 97), some (.int a1), some (.int a2), some (.int a3), some (.int a4), some (.int (a2 >>> ((a4 + 1) &&& 31))), some (.int (((a2 >>> ((a4 + 1) &&& 31)) &&& 1) + (((a2 >>> ((a4 + 1) &&& 31)) >>> ((1 : Int32) &&& 31)) &&& 1))), none] [.int r6, .int r4] M5 _
      refine q_imul (pc := 82) k127_82 ?_
      refine q_istore (pc := 83) [some (.ref 97), some (.int a1), some (.int a2), some (.int a3), some (.int a4), some (.int (a2 >>> ((a4 + 1) &&& 31))), some (.int (((a2 >>> ((a4 + 1) &&& 31)) &&& 1) + (((a2 >>> ((a4 + 1) &&& 31)) >>> ((1 : Int32) &&& 31)) &&& 1))), some (.int (r4 * r6))] k127_83 rfl (by decide) rfl ?_
      refine q_iload_n (pc := 85) k127_85 rfl ?_
      refine q_iload (pc := 86) k127_86 rfl ?_
      refine q_iconst (pc := 88) (v := 2) k127_88 (by decide) ?_
      refine q_irem (pc := 89) k127_89 (by decide) ?_
      refine q_if_ne (pc := 90) 98 k127_90 (by decide) (fun g7 => ?_) (fun g7 => ?_)
      · replace h := h.1 g7
        refine q_iload (pc := 98) k127_98 rfl ?_
        refine q_ineg (pc := 100) k127_100 ?_
        refine q_iadd (pc := 101) k127_101 ?_
        refine q_istore_n (pc := 102) [some (.ref 97), some (.int a1), some (.int a2), some (.int (a3 + (-(r4 * r6)))), some (.int a4), some (.int (a2 >>> ((a4 + 1) &&& 31))), some (.int (((a2 >>> ((a4 + 1) &&& 31)) &&& 1) + (((a2 >>> ((a4 + 1) &&& 31)) >>> ((1 : Int32) &&& 31)) &&& 1))), some (.int (r4 * r6))] k127_102 rfl (by decide) rfl ?_
        refine q_iinc (pc := 103) (v := a4 + 1) [some (.ref 97), some (.int a1), some (.int a2), some (.int (a3 + (-(r4 * r6)))), some (.int (a4 + 1)), some (.int (a2 >>> ((a4 + 1) &&& 31))), some (.int (((a2 >>> ((a4 + 1) &&& 31)) &&& 1) + (((a2 >>> ((a4 + 1) &&& 31)) >>> ((1 : Int32) &&& 31)) &&& 1))), some (.int (r4 * r6))] k127_103 rfl rfl rfl (by decide) rfl ?_
        refine q_goto (pc := 106) 17 k127_106 (by decide) ?_
        exact q_forget [some (.ref 97), some (.int a1), some (.int a2), some (.int (a3 + (-(r4 * r6)))), some (.int (a4 + 1)), none, none, none] (q_subOk (And.intro rfl (And.intro rfl (And.intro rfl (And.intro rfl (And.intro rfl (trivial))))))) h
      · replace h := h.2 g7
        refine q_iload (pc := 93) k127_93 rfl ?_
        refine q_goto (pc := 95) 101 k127_95 (by decide) ?_
        refine q_iadd (pc := 101) k127_101 ?_
        refine q_istore_n (pc := 102) [some (.ref 97), some (.int a1), some (.int a2), some (.int (a3 + (r4 * r6))), some (.int a4), some (.int (a2 >>> ((a4 + 1) &&& 31))), some (.int (((a2 >>> ((a4 + 1) &&& 31)) &&& 1) + (((a2 >>> ((a4 + 1) &&& 31)) >>> ((1 : Int32) &&& 31)) &&& 1))), some (.int (r4 * r6))] k127_102 rfl (by decide) rfl ?_
        refine q_iinc (pc := 103) (v := a4 + 1) [some (.ref 97), some (.int a1), some (.int a2), some (.int (a3 + (r4 * r6))), some (.int (a4 + 1)), some (.int (a2 >>> ((a4 + 1) &&& 31))), some (.int (((a2 >>> ((a4 + 1) &&& 31)) &&& 1) + (((a2 >>> ((a4 + 1) &&& 31)) >>> ((1 : Int32) &&& 31)) &&& 1))), some (.int (r4 * r6))] k127_103 rfl rfl rfl (by decide) rfl ?_
        refine q_goto (pc := 106) 17 k127_106 (by decide) ?_
        exact q_forget [some (.ref 97), some (.int a1), some (.int a2), some (.int (a3 + (r4 * r6))), some (.int (a4 + 1)), none, none, none] (q_subOk (And.intro rfl (And.intro rfl (And.intro rfl (And.intro rfl (And.intro rfl (trivial))))))) h
    · replace h := h.2 g2
      refine q_goto (pc := 38) 103 k127_38 (by decide) ?_
      refine q_iinc (pc := 103) (v := a4 + 1) [some (.ref 97), some (.int a1), some (.int a2), some (.int a3), some (.int (a4 + 1)), none, none, none] k127_103 rfl rfl rfl (by decide) rfl ?_
      refine q_goto (pc := 106) 17 k127_106 (by decide) ?_
      exact h
set_option maxRecDepth 20000 in
theorem vc128 {X : Nat × (Nat → Int32)} {d : Nat} (hd : 0 < d) {M : q_M} {K : Int32 → q_M → Prop} (h : q_Ci X (d - 1) 124 [.ref 97] M (fun r2 M1 => ((r2 = 0) → (q_Ci X (d - 1) 91 [.ref 97, .int (-3)] M1 (fun r5 M4 => K ((1000000000 : Int32) - r5) M4))) ∧ ((¬ r2 = 0) → (q_Ci X (d - 1) 127 [.ref 97, .int 0, .int 0] M1 (fun r7 M6 => K r7 M6))))) : q_Ci X d 128 [.ref 97] M K := by
  show q_Ex X d 128 0 [some (.ref 97)] [] M (q_ri K)
  refine q_aload_n (pc := 0) k128_0 rfl ?_
  refine q_invV (pc := 1) (As := []) (st := []) k128_1 lm128_173 ov124 rfl rfl rfl (q_cat rfl) (Nat.le_of_ble_eq_true rfl) hd h ?_
  rintro v M1 ⟨r2, rfl, h⟩
  show q_Ex X d 128 (1 + 3) [some (.ref 97)] [.int r2] M1 _
  refine q_if_eq (pc := 4) 16 k128_4 (by decide) (fun g3 => ?_) (fun g3 => ?_)
  · replace h := h.1 g3
    refine q_ldc (pc := 16) (v := 1000000000) k128_16 ld128_183 ?_
    refine q_aload_n (pc := 18) k128_18 rfl ?_
    refine q_bipush (pc := 19) (v := (-3)) k128_19 (by decide) ?_
    refine q_invV (pc := 21) (As := [.int (-3)]) (st := [.int 1000000000]) k128_21 lm128_80 ov91 rfl rfl rfl (q_cat rfl) (Nat.le_of_ble_eq_true rfl) hd h ?_
    rintro v M4 ⟨r5, rfl, h⟩
    show q_Ex X d 128 (21 + 3) [some (.ref 97)] [.int r5, .int 1000000000] M4 _
    refine q_isub (pc := 24) k128_24 ?_
    exact q_ireturn (pc := 25) k128_25 rfl ⟨_, rfl, h⟩
  · replace h := h.2 g3
    refine q_aload_n (pc := 7) k128_7 rfl ?_
    refine q_iconst (pc := 8) (v := 0) k128_8 (by decide) ?_
    refine q_iconst (pc := 9) (v := 0) k128_9 (by decide) ?_
    refine q_invV (pc := 10) (As := [.int 0, .int 0]) (st := []) k128_10 lm128_180 ov127 rfl rfl rfl (q_cat rfl) (Nat.le_of_ble_eq_true rfl) hd h ?_
    rintro v M6 ⟨r7, rfl, h⟩
    show q_Ex X d 128 (10 + 3) [some (.ref 97)] [.int r7] M6 _
    refine q_goto (pc := 13) 25 k128_13 (by decide) ?_
    exact q_ireturn (pc := 25) k128_25 rfl ⟨_, rfl, h⟩
set_option maxRecDepth 20000 in
theorem vc129 {X : Nat × (Nat → Int32)} {d : Nat} (hd : 0 < d) {M : q_M} {K : Int32 → q_M → Prop} (h : q_Ci X (d - 1) 124 [.ref 97] M (fun r2 M1 => ((¬ r2 = 0) → (q_Ex X d 129 16 [some (.ref 97), some (.int 1), none, none] [] M1 (q_ri K))) ∧ ((r2 = 0) → (q_Ci X (d - 1) 91 [.ref 97, .int (-3)] M1 (fun r5 M4 => K r5 M4))))) : q_Ci X d 129 [.ref 97] M K := by
  show q_Ex X d 129 0 [some (.ref 97), none, none, none] [] M (q_ri K)
  refine q_aload_n (pc := 0) k129_0 rfl ?_
  refine q_invV (pc := 1) (As := []) (st := []) k129_1 lm129_173 ov124 rfl rfl rfl (q_cat rfl) (Nat.le_of_ble_eq_true rfl) hd h ?_
  rintro v M1 ⟨r2, rfl, h⟩
  show q_Ex X d 129 (1 + 3) [some (.ref 97), none, none, none] [.int r2] M1 _
  refine q_if_ne (pc := 4) 14 k129_4 (by decide) (fun g3 => ?_) (fun g3 => ?_)
  · replace h := h.1 g3
    refine q_iconst (pc := 14) (v := 1) k129_14 (by decide) ?_
    refine q_istore_n (pc := 15) [some (.ref 97), some (.int 1), none, none] k129_15 rfl (by decide) rfl ?_
    exact h
  · replace h := h.2 g3
    refine q_aload_n (pc := 7) k129_7 rfl ?_
    refine q_bipush (pc := 8) (v := (-3)) k129_8 (by decide) ?_
    refine q_invV (pc := 10) (As := [.int (-3)]) (st := []) k129_10 lm129_80 ov91 rfl rfl rfl (q_cat rfl) (Nat.le_of_ble_eq_true rfl) hd h ?_
    rintro v M4 ⟨r5, rfl, h⟩
    show q_Ex X d 129 (10 + 3) [some (.ref 97), none, none, none] [.int r5] M4 _
    exact q_ireturn (pc := 13) k129_13 rfl ⟨_, rfl, h⟩
set_option maxRecDepth 20000 in
theorem vc129_p16 {X : Nat × (Nat → Int32)} {d : Nat} (hd : 0 < d) {M : q_M} {a1 : Int32} {K : Int32 → q_M → Prop} (h : ((210 < a1) → (K 1 M)) ∧ ((¬ 210 < a1) → (q_Ci X (d - 1) 108 [.ref 97, .int a1] M (fun r3 M2 => ((¬ r3 = 0) → (q_Ex X d 129 38 [some (.ref 97), some (.int a1), some (.int 1), some (.int 0)] [] M2 (q_ri K))) ∧ ((r3 = 0) → (q_Ex X d 129 16 [some (.ref 97), some (.int (a1 + 1)), none, none] [] M2 (q_ri K))))))) : q_Ex X d 129 16 [some (.ref 97), some (.int a1), none, none] [] M (q_ri K) := by
  refine q_iload_n (pc := 16) k129_16 rfl ?_
  refine q_sipush (pc := 17) (v := 210) k129_17 (by decide) ?_
  refine q_icmp_gt (pc := 20) 93 k129_20 (by decide) (fun g1 => ?_) (fun g1 => ?_)
  · replace h := h.1 g1
    refine q_iconst (pc := 93) (v := 1) k129_93 (by decide) ?_
    exact q_ireturn (pc := 94) k129_94 rfl ⟨_, rfl, h⟩
  · replace h := h.2 g1
    refine q_aload_n (pc := 23) k129_23 rfl ?_
    refine q_iload_n (pc := 24) k129_24 rfl ?_
    refine q_invV (pc := 25) (As := [.int a1]) (st := []) k129_25 lm129_100 ov108 rfl rfl rfl (q_cat rfl) (Nat.le_of_ble_eq_true rfl) hd h ?_
    rintro v M2 ⟨r3, rfl, h⟩
    show q_Ex X d 129 (25 + 3) [some (.ref 97), some (.int a1), none, none] [.int r3] M2 _
    refine q_if_ne (pc := 28) 34 k129_28 (by decide) (fun g4 => ?_) (fun g4 => ?_)
    · replace h := h.1 g4
      refine q_iconst (pc := 34) (v := 1) k129_34 (by decide) ?_
      refine q_istore_n (pc := 35) [some (.ref 97), some (.int a1), some (.int 1), none] k129_35 rfl (by decide) rfl ?_
      refine q_iconst (pc := 36) (v := 0) k129_36 (by decide) ?_
      refine q_istore_n (pc := 37) [some (.ref 97), some (.int a1), some (.int 1), some (.int 0)] k129_37 rfl (by decide) rfl ?_
      exact h
    · replace h := h.2 g4
      refine q_goto (pc := 31) 87 k129_31 (by decide) ?_
      refine q_iinc (pc := 87) (v := a1 + 1) [some (.ref 97), some (.int (a1 + 1)), none, none] k129_87 rfl rfl rfl (by decide) rfl ?_
      refine q_goto (pc := 90) 16 k129_90 (by decide) ?_
      exact h
set_option maxRecDepth 20000 in
theorem vc129_p38 {X : Nat × (Nat → Int32)} {d : Nat} (hd : 0 < d) {M : q_M} {a1 a2 a3 : Int32} {K : Int32 → q_M → Prop} (h : (((M 99 2) ≤ a3) → (((¬ a2 = 0) → (q_Ex X d 129 16 [some (.ref 97), some (.int (a1 + 1)), none, none] [] M (q_ri K))) ∧ ((a2 = 0) → (q_Ci X (d - 1) 123 [.ref 97] M (fun r4 M3 => ((r4 ≤ 0) → (q_Ex X d 129 16 [some (.ref 97), some (.int (a1 + 1)), none, none] [] M3 (q_ri K))) ∧ ((¬ r4 ≤ 0) → (K 0 M3))))))) ∧ ((¬ (M 99 2) ≤ a3) → (((a2 = 0) → (q_Ex X d 129 38 [some (.ref 97), some (.int a1), some (.int 0), some (.int (a3 + 1))] [] M (q_ri K))) ∧ ((¬ a2 = 0) → (vp_in a3 3 ∧ (((¬ (M 103 (Int32.toNatClampNeg a3)) = a3) → (q_Ex X d 129 38 [some (.ref 97), some (.int a1), some (.int 0), some (.int (a3 + 1))] [] M (q_ri K))) ∧ (((M 103 (Int32.toNatClampNeg a3)) = a3) → (q_Ex X d 129 38 [some (.ref 97), some (.int a1), some (.int 1), some (.int (a3 + 1))] [] M (q_ri K))))))))) : q_Ex X d 129 38 [some (.ref 97), some (.int a1), some (.int a2), some (.int a3)] [] M (q_ri K) := by
  refine q_iload_n (pc := 38) k129_38 rfl ?_
  refine q_aload_n (pc := 39) k129_39 rfl ?_
  refine q_getR (pc := 40) k129_40 fg129_13 rfl rfl ?_
  refine q_iconst (pc := 43) (v := 2) k129_43 (by decide) ?_
  refine q_ialdv (pc := 44) (v := M 99 2) k129_44 rfl (q_vin (by decide)) rfl ?_
  refine q_icmp_ge (pc := 45) 74 k129_45 (by decide) (fun g1 => ?_) (fun g1 => ?_)
  · replace h := h.1 g1
    refine q_iload_n (pc := 74) k129_74 rfl ?_
    refine q_if_ne (pc := 75) 87 k129_75 (by decide) (fun g2 => ?_) (fun g2 => ?_)
    · replace h := h.1 g2
      refine q_iinc (pc := 87) (v := a1 + 1) [some (.ref 97), some (.int (a1 + 1)), some (.int a2), some (.int a3)] k129_87 rfl rfl rfl (by decide) rfl ?_
      refine q_goto (pc := 90) 16 k129_90 (by decide) ?_
      exact q_forget [some (.ref 97), some (.int (a1 + 1)), none, none] (q_subOk (And.intro rfl (And.intro rfl (trivial)))) h
    · replace h := h.2 g2
      refine q_aload_n (pc := 78) k129_78 rfl ?_
      refine q_invV (pc := 79) (As := []) (st := []) k129_79 lm129_184 ov123 rfl rfl rfl (q_cat rfl) (Nat.le_of_ble_eq_true rfl) hd h ?_
      rintro v M3 ⟨r4, rfl, h⟩
      show q_Ex X d 129 (79 + 3) [some (.ref 97), some (.int a1), some (.int a2), some (.int a3)] [.int r4] M3 _
      refine q_if_le (pc := 82) 87 k129_82 (by decide) (fun g5 => ?_) (fun g5 => ?_)
      · replace h := h.1 g5
        refine q_iinc (pc := 87) (v := a1 + 1) [some (.ref 97), some (.int (a1 + 1)), some (.int a2), some (.int a3)] k129_87 rfl rfl rfl (by decide) rfl ?_
        refine q_goto (pc := 90) 16 k129_90 (by decide) ?_
        exact q_forget [some (.ref 97), some (.int (a1 + 1)), none, none] (q_subOk (And.intro rfl (And.intro rfl (trivial)))) h
      · replace h := h.2 g5
        refine q_iconst (pc := 85) (v := 0) k129_85 (by decide) ?_
        exact q_ireturn (pc := 86) k129_86 rfl ⟨_, rfl, h⟩
  · replace h := h.2 g1
    refine q_iload_n (pc := 48) k129_48 rfl ?_
    refine q_if_eq (pc := 49) 66 k129_49 (by decide) (fun g6 => ?_) (fun g6 => ?_)
    · replace h := h.1 g6
      refine q_iconst (pc := 66) (v := 0) k129_66 (by decide) ?_
      refine q_istore_n (pc := 67) [some (.ref 97), some (.int a1), some (.int 0), some (.int a3)] k129_67 rfl (by decide) rfl ?_
      refine q_iinc (pc := 68) (v := a3 + 1) [some (.ref 97), some (.int a1), some (.int 0), some (.int (a3 + 1))] k129_68 rfl rfl rfl (by decide) rfl ?_
      refine q_goto (pc := 71) 38 k129_71 (by decide) ?_
      exact h
    · replace h := h.2 g6
      refine q_aload_n (pc := 52) k129_52 rfl ?_
      refine q_getR (pc := 53) k129_53 fg129_25 rfl rfl ?_
      refine q_iload_n (pc := 56) k129_56 rfl ?_
      refine q_ialdv (pc := 57) (v := M 103 (Int32.toNatClampNeg a3)) k129_57 rfl h.1 rfl ?_
      replace h := h.2
      refine q_iload_n (pc := 58) k129_58 rfl ?_
      refine q_icmp_ne (pc := 59) 66 k129_59 (by decide) (fun g7 => ?_) (fun g7 => ?_)
      · replace h := h.1 g7
        refine q_iconst (pc := 66) (v := 0) k129_66 (by decide) ?_
        refine q_istore_n (pc := 67) [some (.ref 97), some (.int a1), some (.int 0), some (.int a3)] k129_67 rfl (by decide) rfl ?_
        refine q_iinc (pc := 68) (v := a3 + 1) [some (.ref 97), some (.int a1), some (.int 0), some (.int (a3 + 1))] k129_68 rfl rfl rfl (by decide) rfl ?_
        refine q_goto (pc := 71) 38 k129_71 (by decide) ?_
        exact h
      · replace h := h.2 g7
        refine q_iconst (pc := 62) (v := 1) k129_62 (by decide) ?_
        refine q_goto (pc := 63) 67 k129_63 (by decide) ?_
        refine q_istore_n (pc := 67) [some (.ref 97), some (.int a1), some (.int 1), some (.int a3)] k129_67 rfl (by decide) rfl ?_
        refine q_iinc (pc := 68) (v := a3 + 1) [some (.ref 97), some (.int a1), some (.int 1), some (.int (a3 + 1))] k129_68 rfl rfl rfl (by decide) rfl ?_
        refine q_goto (pc := 71) 38 k129_71 (by decide) ?_
        exact h
