set_option maxRecDepth 20000 in
theorem vc1_88 {X : Nat × (Nat → Int32)} {d : Nat} {M : q_M} {a2 a3 a4 : Int32} {ra : Nat} {K : Int32 → q_M → Prop} (h : q_Ex X d 1 3 [some (.ref 88), some (.ref ra), some (.int a2), some (.int a3), some (.int a4), some (.int 0)] [] M (q_ri K)) : q_Ci X d 1 [.ref 88, .ref ra, .int a2, .int a3, .int a4] M K := by
  show q_Ex X d 1 0 [some (.ref 88), some (.ref ra), some (.int a2), some (.int a3), some (.int a4), none] [] M (q_ri K)
  refine q_iconst (pc := 0) (v := 0) k1_0 (by decide) ?_
  refine q_istore (pc := 1) [some (.ref 88), some (.ref ra), some (.int a2), some (.int a3), some (.int a4), some (.int 0)] k1_1 rfl (by decide) rfl ?_
  exact h
set_option maxRecDepth 20000 in
theorem vc1_88_p3 {X : Nat × (Nat → Int32)} {d : Nat} (hd : 0 < d) {M : q_M} {a2 a3 a4 a5 : Int32} {ra : Nat} {K : Int32 → q_M → Prop} (h : (((M 44 1) ≤ a5) → (q_Cv X (d - 1) 2 [.ref 88, .int 0, .int 0] (q_set (q_set (q_set M 88 3 a3) 88 4 a4) 88 5 0) (fun M2 => K (M2 88 5) M2))) ∧ ((¬ (M 44 1) ≤ a5) → (q_CV X (d - 1) 1 28 ra [.int a5, .int (M 44 1), .int a2] M (fun r3 M4 => vp_in a5 3 ∧ (q_Ex X d 1 3 [some (.ref 88), some (.ref ra), some (.int a2), some (.int a3), some (.int a4), some (.int (a5 + 1))] [] (q_set M4 90 (Int32.toNatClampNeg a5) r3) (q_ri K)))))) : q_Ex X d 1 3 [some (.ref 88), some (.ref ra), some (.int a2), some (.int a3), some (.int a4), some (.int a5)] [] M (q_ri K) := by
  refine q_iload (pc := 3) k1_3 rfl ?_
  refine q_aload_n (pc := 5) k1_5 rfl ?_
  refine q_getR (pc := 6) k1_6 fg1_18 rfl rfl ?_
  refine q_getIv (pc := 9) (v := M 44 1) k1_9 fg1_22 rfl rfl rfl ?_
  refine q_icmp_ge (pc := 12) 42 k1_12 (by decide) (fun g1 => ?_) (fun g1 => ?_)
  · replace h := h.1 g1
    refine q_aload_n (pc := 42) k1_42 rfl ?_
    refine q_iload_n (pc := 43) k1_43 rfl ?_
    refine q_putI (pc := 44) k1_44 fp1_34 rfl rfl ?_
    refine q_aload_n (pc := 47) k1_47 rfl ?_
    refine q_iload (pc := 48) k1_48 rfl ?_
    refine q_putI (pc := 50) k1_50 fp1_37 rfl rfl ?_
    refine q_aload_n (pc := 53) k1_53 rfl ?_
    refine q_iconst (pc := 54) (v := 0) k1_54 (by decide) ?_
    refine q_putI (pc := 55) k1_55 fp1_40 rfl rfl ?_
    refine q_aload_n (pc := 58) k1_58 rfl ?_
    refine q_iconst (pc := 59) (v := 0) k1_59 (by decide) ?_
    refine q_iconst (pc := 60) (v := 0) k1_60 (by decide) ?_
    refine q_invV (pc := 61) (As := [.int 0, .int 0]) (st := []) k1_61 lm1_43 ov2 rfl rfl rfl (q_cat rfl) (Nat.le_of_ble_eq_true rfl) hd h ?_
    rintro v M2 ⟨rfl, h⟩
    show q_Ex X d 1 (61 + 3) [some (.ref 88), some (.ref ra), some (.int a2), some (.int a3), some (.int a4), some (.int a5)] [] M2 _
    refine q_aload_n (pc := 64) k1_64 rfl ?_
    refine q_getIv (pc := 65) (v := M2 88 5) k1_65 fg1_40 rfl rfl rfl ?_
    exact q_ireturn (pc := 68) k1_68 rfl ⟨_, rfl, h⟩
  · replace h := h.2 g1
    refine q_aload_n (pc := 15) k1_15 rfl ?_
    refine q_getR (pc := 16) k1_16 fg1_15 rfl rfl ?_
    refine q_iload (pc := 19) k1_19 rfl ?_
    refine q_aload_n (pc := 21) k1_21 rfl ?_
    refine q_iload (pc := 22) k1_22 rfl ?_
    refine q_aload_n (pc := 24) k1_24 rfl ?_
    refine q_getR (pc := 25) k1_25 fg1_18 rfl rfl ?_
    refine q_getIv (pc := 28) (v := M 44 1) k1_28 fg1_22 rfl rfl rfl ?_
    refine q_iload_n (pc := 31) k1_31 rfl ?_
    refine q_invC (pc := 32) (As := [.int a5, .int (M 44 1), .int a2]) (st := [.int a5, .ref 90]) k1_32 rfl (q_cat rfl) (Nat.le_of_ble_eq_true rfl) hd h (fun r3 M4 h => ?_)
    refine q_iastv (pc := 35) (k := (Int32.toNatClampNeg a5)) k1_35 rfl h.1 rfl ?_
    replace h := h.2
    refine q_iinc (pc := 36) (v := a5 + 1) [some (.ref 88), some (.ref ra), some (.int a2), some (.int a3), some (.int a4), some (.int (a5 + 1))] k1_36 rfl rfl rfl (by decide) rfl ?_
    refine q_goto (pc := 39) 3 k1_39 (by decide) ?_
    exact h
set_option maxRecDepth 20000 in
theorem vc2_88 {X : Nat × (Nat → Int32)} {d : Nat} {M : q_M} {a1 a2 : Int32} {K : q_M → Prop} (h : ((a1 < (M 44 1)) → (q_Ex X d 2 37 [some (.ref 88), some (.int a1), some (.int a2), some (.int 0), none] [] M (q_rn K))) ∧ ((¬ a1 < (M 44 1)) → (((¬ (a2 &&& (M 88 3)) = (M 88 3)) → (K M)) ∧ (((a2 &&& (M 88 3)) = (M 88 3)) → (K (q_set M 88 5 ((M 88 5) + 1))))))) : q_Cv X d 2 [.ref 88, .int a1, .int a2] M K := by
  show q_Ex X d 2 0 [some (.ref 88), some (.int a1), some (.int a2), none, none] [] M (q_rn K)
  refine q_iload_n (pc := 0) k2_0 rfl ?_
  refine q_aload_n (pc := 1) k2_1 rfl ?_
  refine q_getR (pc := 2) k2_2 fg2_18 rfl rfl ?_
  refine q_getIv (pc := 5) (v := M 44 1) k2_5 fg2_22 rfl rfl rfl ?_
  refine q_icmp_lt (pc := 8) 35 k2_8 (by decide) (fun g1 => ?_) (fun g1 => ?_)
  · replace h := h.1 g1
    refine q_iconst (pc := 35) (v := 0) k2_35 (by decide) ?_
    refine q_istore_n (pc := 36) [some (.ref 88), some (.int a1), some (.int a2), some (.int 0), none] k2_36 rfl (by decide) rfl ?_
    exact h
  · replace h := h.2 g1
    refine q_iload_n (pc := 11) k2_11 rfl ?_
    refine q_aload_n (pc := 12) k2_12 rfl ?_
    refine q_getIv (pc := 13) (v := M 88 3) k2_13 fg2_34 rfl rfl rfl ?_
    refine q_iand (pc := 16) k2_16 ?_
    refine q_aload_n (pc := 17) k2_17 rfl ?_
    refine q_getIv (pc := 18) (v := M 88 3) k2_18 fg2_34 rfl rfl rfl ?_
    refine q_icmp_ne (pc := 21) 34 k2_21 (by decide) (fun g2 => ?_) (fun g2 => ?_)
    · replace h := h.1 g2
      exact q_return (pc := 34) k2_34 rfl ⟨rfl, h⟩
    · replace h := h.2 g2
      refine q_aload_n (pc := 24) k2_24 rfl ?_
      refine q_dup (pc := 25) k2_25 rfl ?_
      refine q_getIv (pc := 26) (v := M 88 5) k2_26 fg2_40 rfl rfl rfl ?_
      refine q_iconst (pc := 29) (v := 1) k2_29 (by decide) ?_
      refine q_iadd (pc := 30) k2_30 ?_
      refine q_putI (pc := 31) k2_31 fp2_40 rfl rfl ?_
      exact q_return (pc := 34) k2_34 rfl ⟨rfl, h⟩
set_option maxRecDepth 20000 in
theorem vc2_88_p37 {X : Nat × (Nat → Int32)} {d : Nat} (hd : 0 < d) {M : q_M} {a1 a2 a3 : Int32} {K : q_M → Prop} (h : vp_in a1 3 ∧ ((((M 45 (Int32.toNatClampNeg a1)) ≤ a3) → (K M)) ∧ ((¬ (M 45 (Int32.toNatClampNeg a1)) ≤ a3) → ((((M 88 4) ≤ (M 88 5)) → (K M)) ∧ ((¬ (M 88 4) ≤ (M 88 5)) → (vp_in a1 3 ∧ (vp_in a3 126 ∧ (((¬ ((M (47 + Int32.toNatClampNeg a1) (Int32.toNatClampNeg a3)) &&& a2) = 0) → (q_Ex X d 2 37 [some (.ref 88), some (.int a1), some (.int a2), some (.int (a3 + 1)), none] [] M (q_rn K))) ∧ ((((M (47 + Int32.toNatClampNeg a1) (Int32.toNatClampNeg a3)) &&& a2) = 0) → (vp_in a1 3 ∧ (vp_in a1 3 ∧ (vp_in a3 126 ∧ ((((((M 90 (Int32.toNatClampNeg a1)) >>> ((M (51 + Int32.toNatClampNeg a1) (Int32.toNatClampNeg a3)) &&& 31)) &&& 1) = 0) → (q_Ex X d 2 37 [some (.ref 88), some (.int a1), some (.int a2), some (.int (a3 + 1)), none] [] M (q_rn K))) ∧ ((¬ (((M 90 (Int32.toNatClampNeg a1)) >>> ((M (51 + Int32.toNatClampNeg a1) (Int32.toNatClampNeg a3)) &&& 31)) &&& 1) = 0) → (vp_in a1 3 ∧ (q_Cv X (d - 1) 2 [.ref 88, .int (a1 + 1), .int (a2 ||| (M (47 + Int32.toNatClampNeg a1) (Int32.toNatClampNeg a3)))] (q_set M 89 (Int32.toNatClampNeg a1) (M (47 + Int32.toNatClampNeg a1) (Int32.toNatClampNeg a3))) (fun M7 => q_Ex X d 2 37 [some (.ref 88), some (.int a1), some (.int a2), some (.int (a3 + 1)), none] [] M7 (q_rn K)))))))))))))))))) : q_Ex X d 2 37 [some (.ref 88), some (.int a1), some (.int a2), some (.int a3), none] [] M (q_rn K) := by
  refine q_iload_n (pc := 37) k2_37 rfl ?_
  refine q_aload_n (pc := 38) k2_38 rfl ?_
  refine q_getR (pc := 39) k2_39 fg2_18 rfl rfl ?_
  refine q_getR (pc := 42) k2_42 fg2_47 rfl rfl ?_
  refine q_iload_n (pc := 45) k2_45 rfl ?_
  refine q_ialdv (pc := 46) (v := M 45 (Int32.toNatClampNeg a1)) k2_46 rfl h.1 rfl ?_
  replace h := h.2
  refine q_icmp_ge (pc := 47) 129 k2_47 (by decide) (fun g1 => ?_) (fun g1 => ?_)
  · replace h := h.1 g1
    exact q_return (pc := 129) k2_129 rfl ⟨rfl, h⟩
  · replace h := h.2 g1
    refine q_aload_n (pc := 50) k2_50 rfl ?_
    refine q_getIv (pc := 51) (v := M 88 5) k2_51 fg2_40 rfl rfl rfl ?_
    refine q_aload_n (pc := 54) k2_54 rfl ?_
    refine q_getIv (pc := 55) (v := M 88 4) k2_55 fg2_37 rfl rfl rfl ?_
    refine q_icmp_ge (pc := 58) 129 k2_58 (by decide) (fun g2 => ?_) (fun g2 => ?_)
    · replace h := h.1 g2
      exact q_return (pc := 129) k2_129 rfl ⟨rfl, h⟩
    · replace h := h.2 g2
      refine q_aload_n (pc := 61) k2_61 rfl ?_
      refine q_getR (pc := 62) k2_62 fg2_18 rfl rfl ?_
      refine q_getR (pc := 65) k2_65 fg2_50 rfl rfl ?_
      refine q_iload_n (pc := 68) k2_68 rfl ?_
      have w3 := h.1
      replace h := h.2
      refine q_aald (pc := 69) k2_69 rfl w3 ?_
      refine q_iload_n (pc := 70) k2_70 rfl ?_
      refine q_ialdv (pc := 71) (v := M (47 + Int32.toNatClampNeg a1) (Int32.toNatClampNeg a3)) k2_71 (rw46 w3) h.1 rfl ?_
      replace h := h.2
      refine q_istore (pc := 72) [some (.ref 88), some (.int a1), some (.int a2), some (.int a3), some (.int (M (47 + Int32.toNatClampNeg a1) (Int32.toNatClampNeg a3)))] k2_72 rfl (by decide) rfl ?_
      refine q_iload (pc := 74) k2_74 rfl ?_
      refine q_iload_n (pc := 76) k2_76 rfl ?_
      refine q_iand (pc := 77) k2_77 ?_
      refine q_if_ne (pc := 78) 123 k2_78 (by decide) (fun g4 => ?_) (fun g4 => ?_)
      · replace h := h.1 g4
        refine q_iinc (pc := 123) (v := a3 + 1) [some (.ref 88), some (.int a1), some (.int a2), some (.int (a3 + 1)), some (.int (M (47 + Int32.toNatClampNeg a1) (Int32.toNatClampNeg a3)))] k2_123 rfl rfl rfl (by decide) rfl ?_
        refine q_goto (pc := 126) 37 k2_126 (by decide) ?_
        exact q_forget [some (.ref 88), some (.int a1), some (.int a2), some (.int (a3 + 1)), none] (q_subOk (And.intro rfl (And.intro rfl (And.intro rfl (And.intro rfl (trivial)))))) h
      · replace h := h.2 g4
        refine q_aload_n (pc := 81) k2_81 rfl ?_
        refine q_getR (pc := 82) k2_82 fg2_15 rfl rfl ?_
        refine q_iload_n (pc := 85) k2_85 rfl ?_
        refine q_ialdv (pc := 86) (v := M 90 (Int32.toNatClampNeg a1)) k2_86 rfl h.1 rfl ?_
        replace h := h.2
        refine q_aload_n (pc := 87) k2_87 rfl ?_
        refine q_getR (pc := 88) k2_88 fg2_18 rfl rfl ?_
        refine q_getR (pc := 91) k2_91 fg2_54 rfl rfl ?_
        refine q_iload_n (pc := 94) k2_94 rfl ?_
        have w5 := h.1
        replace h := h.2
        refine q_aald (pc := 95) k2_95 rfl w5 ?_
        refine q_iload_n (pc := 96) k2_96 rfl ?_
        refine q_ialdv (pc := 97) (v := M (51 + Int32.toNatClampNeg a1) (Int32.toNatClampNeg a3)) k2_97 (rw50 w5) h.1 rfl ?_
        replace h := h.2
        refine q_ishr (pc := 98) k2_98 ?_
        refine q_iconst (pc := 99) (v := 1) k2_99 (by decide) ?_
        refine q_iand (pc := 100) k2_100 ?_
        refine q_if_eq (pc := 101) 123 k2_101 (by decide) (fun g6 => ?_) (fun g6 => ?_)
        · replace h := h.1 g6
          refine q_iinc (pc := 123) (v := a3 + 1) [some (.ref 88), some (.int a1), some (.int a2), some (.int (a3 + 1)), some (.int (M (47 + Int32.toNatClampNeg a1) (Int32.toNatClampNeg a3)))] k2_123 rfl rfl rfl (by decide) rfl ?_
          refine q_goto (pc := 126) 37 k2_126 (by decide) ?_
          exact q_forget [some (.ref 88), some (.int a1), some (.int a2), some (.int (a3 + 1)), none] (q_subOk (And.intro rfl (And.intro rfl (And.intro rfl (And.intro rfl (trivial)))))) h
        · replace h := h.2 g6
          refine q_aload_n (pc := 104) k2_104 rfl ?_
          refine q_getR (pc := 105) k2_105 fg2_9 rfl rfl ?_
          refine q_iload_n (pc := 108) k2_108 rfl ?_
          refine q_iload (pc := 109) k2_109 rfl ?_
          refine q_iastv (pc := 111) (k := (Int32.toNatClampNeg a1)) k2_111 rfl h.1 rfl ?_
          replace h := h.2
          refine q_aload_n (pc := 112) k2_112 rfl ?_
          refine q_iload_n (pc := 113) k2_113 rfl ?_
          refine q_iconst (pc := 114) (v := 1) k2_114 (by decide) ?_
          refine q_iadd (pc := 115) k2_115 ?_
          refine q_iload_n (pc := 116) k2_116 rfl ?_
          refine q_iload (pc := 117) k2_117 rfl ?_
          refine q_ior (pc := 119) k2_119 ?_
          refine q_invV (pc := 120) (As := [.int (a1 + 1), .int (a2 ||| (M (47 + Int32.toNatClampNeg a1) (Int32.toNatClampNeg a3)))]) (st := []) k2_120 lm2_43 ov2 rfl rfl rfl (q_cat rfl) (Nat.le_of_ble_eq_true rfl) hd h ?_
          rintro v M7 ⟨rfl, h⟩
          show q_Ex X d 2 (120 + 3) [some (.ref 88), some (.int a1), some (.int a2), some (.int a3), some (.int (M (47 + Int32.toNatClampNeg a1) (Int32.toNatClampNeg a3)))] [] M7 _
          refine q_iinc (pc := 123) (v := a3 + 1) [some (.ref 88), some (.int a1), some (.int a2), some (.int (a3 + 1)), some (.int (M (47 + Int32.toNatClampNeg a1) (Int32.toNatClampNeg a3)))] k2_123 rfl rfl rfl (by decide) rfl ?_
          refine q_goto (pc := 126) 37 k2_126 (by decide) ?_
          exact q_forget [some (.ref 88), some (.int a1), some (.int a2), some (.int (a3 + 1)), none] (q_subOk (And.intro rfl (And.intro rfl (And.intro rfl (And.intro rfl (trivial)))))) h
set_option maxRecDepth 20000 in
theorem vc1_91 {X : Nat × (Nat → Int32)} {d : Nat} {M : q_M} {a2 a3 a4 : Int32} {ra : Nat} {K : Int32 → q_M → Prop} (h : q_Ex X d 1 3 [some (.ref 91), some (.ref ra), some (.int a2), some (.int a3), some (.int a4), some (.int 0)] [] M (q_ri K)) : q_Ci X d 1 [.ref 91, .ref ra, .int a2, .int a3, .int a4] M K := by
  show q_Ex X d 1 0 [some (.ref 91), some (.ref ra), some (.int a2), some (.int a3), some (.int a4), none] [] M (q_ri K)
  refine q_iconst (pc := 0) (v := 0) k1_0 (by decide) ?_
  refine q_istore (pc := 1) [some (.ref 91), some (.ref ra), some (.int a2), some (.int a3), some (.int a4), some (.int 0)] k1_1 rfl (by decide) rfl ?_
  exact h
set_option maxRecDepth 20000 in
theorem vc1_91_p3 {X : Nat × (Nat → Int32)} {d : Nat} (hd : 0 < d) {M : q_M} {a2 a3 a4 a5 : Int32} {ra : Nat} {K : Int32 → q_M → Prop} (h : (((M 44 1) ≤ a5) → (q_Cv X (d - 1) 2 [.ref 91, .int 0, .int 0] (q_set (q_set (q_set M 91 3 a3) 91 4 a4) 91 5 0) (fun M2 => K (M2 91 5) M2))) ∧ ((¬ (M 44 1) ≤ a5) → (q_CV X (d - 1) 1 28 ra [.int a5, .int (M 44 1), .int a2] M (fun r3 M4 => vp_in a5 3 ∧ (q_Ex X d 1 3 [some (.ref 91), some (.ref ra), some (.int a2), some (.int a3), some (.int a4), some (.int (a5 + 1))] [] (q_set M4 93 (Int32.toNatClampNeg a5) r3) (q_ri K)))))) : q_Ex X d 1 3 [some (.ref 91), some (.ref ra), some (.int a2), some (.int a3), some (.int a4), some (.int a5)] [] M (q_ri K) := by
  refine q_iload (pc := 3) k1_3 rfl ?_
  refine q_aload_n (pc := 5) k1_5 rfl ?_
  refine q_getR (pc := 6) k1_6 fg1_18 rfl rfl ?_
  refine q_getIv (pc := 9) (v := M 44 1) k1_9 fg1_22 rfl rfl rfl ?_
  refine q_icmp_ge (pc := 12) 42 k1_12 (by decide) (fun g1 => ?_) (fun g1 => ?_)
  · replace h := h.1 g1
    refine q_aload_n (pc := 42) k1_42 rfl ?_
    refine q_iload_n (pc := 43) k1_43 rfl ?_
    refine q_putI (pc := 44) k1_44 fp1_34 rfl rfl ?_
    refine q_aload_n (pc := 47) k1_47 rfl ?_
    refine q_iload (pc := 48) k1_48 rfl ?_
    refine q_putI (pc := 50) k1_50 fp1_37 rfl rfl ?_
    refine q_aload_n (pc := 53) k1_53 rfl ?_
    refine q_iconst (pc := 54) (v := 0) k1_54 (by decide) ?_
    refine q_putI (pc := 55) k1_55 fp1_40 rfl rfl ?_
    refine q_aload_n (pc := 58) k1_58 rfl ?_
    refine q_iconst (pc := 59) (v := 0) k1_59 (by decide) ?_
    refine q_iconst (pc := 60) (v := 0) k1_60 (by decide) ?_
    refine q_invV (pc := 61) (As := [.int 0, .int 0]) (st := []) k1_61 lm1_43 ov2 rfl rfl rfl (q_cat rfl) (Nat.le_of_ble_eq_true rfl) hd h ?_
    rintro v M2 ⟨rfl, h⟩
    show q_Ex X d 1 (61 + 3) [some (.ref 91), some (.ref ra), some (.int a2), some (.int a3), some (.int a4), some (.int a5)] [] M2 _
    refine q_aload_n (pc := 64) k1_64 rfl ?_
    refine q_getIv (pc := 65) (v := M2 91 5) k1_65 fg1_40 rfl rfl rfl ?_
    exact q_ireturn (pc := 68) k1_68 rfl ⟨_, rfl, h⟩
  · replace h := h.2 g1
    refine q_aload_n (pc := 15) k1_15 rfl ?_
    refine q_getR (pc := 16) k1_16 fg1_15 rfl rfl ?_
    refine q_iload (pc := 19) k1_19 rfl ?_
    refine q_aload_n (pc := 21) k1_21 rfl ?_
    refine q_iload (pc := 22) k1_22 rfl ?_
    refine q_aload_n (pc := 24) k1_24 rfl ?_
    refine q_getR (pc := 25) k1_25 fg1_18 rfl rfl ?_
    refine q_getIv (pc := 28) (v := M 44 1) k1_28 fg1_22 rfl rfl rfl ?_
    refine q_iload_n (pc := 31) k1_31 rfl ?_
    refine q_invC (pc := 32) (As := [.int a5, .int (M 44 1), .int a2]) (st := [.int a5, .ref 93]) k1_32 rfl (q_cat rfl) (Nat.le_of_ble_eq_true rfl) hd h (fun r3 M4 h => ?_)
    refine q_iastv (pc := 35) (k := (Int32.toNatClampNeg a5)) k1_35 rfl h.1 rfl ?_
    replace h := h.2
    refine q_iinc (pc := 36) (v := a5 + 1) [some (.ref 91), some (.ref ra), some (.int a2), some (.int a3), some (.int a4), some (.int (a5 + 1))] k1_36 rfl rfl rfl (by decide) rfl ?_
    refine q_goto (pc := 39) 3 k1_39 (by decide) ?_
    exact h
set_option maxRecDepth 20000 in
theorem vc2_91 {X : Nat × (Nat → Int32)} {d : Nat} {M : q_M} {a1 a2 : Int32} {K : q_M → Prop} (h : ((a1 < (M 44 1)) → (q_Ex X d 2 37 [some (.ref 91), some (.int a1), some (.int a2), some (.int 0), none] [] M (q_rn K))) ∧ ((¬ a1 < (M 44 1)) → (((¬ (a2 &&& (M 91 3)) = (M 91 3)) → (K M)) ∧ (((a2 &&& (M 91 3)) = (M 91 3)) → (K (q_set M 91 5 ((M 91 5) + 1))))))) : q_Cv X d 2 [.ref 91, .int a1, .int a2] M K := by
  show q_Ex X d 2 0 [some (.ref 91), some (.int a1), some (.int a2), none, none] [] M (q_rn K)
  refine q_iload_n (pc := 0) k2_0 rfl ?_
  refine q_aload_n (pc := 1) k2_1 rfl ?_
  refine q_getR (pc := 2) k2_2 fg2_18 rfl rfl ?_
  refine q_getIv (pc := 5) (v := M 44 1) k2_5 fg2_22 rfl rfl rfl ?_
  refine q_icmp_lt (pc := 8) 35 k2_8 (by decide) (fun g1 => ?_) (fun g1 => ?_)
  · replace h := h.1 g1
    refine q_iconst (pc := 35) (v := 0) k2_35 (by decide) ?_
    refine q_istore_n (pc := 36) [some (.ref 91), some (.int a1), some (.int a2), some (.int 0), none] k2_36 rfl (by decide) rfl ?_
    exact h
  · replace h := h.2 g1
    refine q_iload_n (pc := 11) k2_11 rfl ?_
    refine q_aload_n (pc := 12) k2_12 rfl ?_
    refine q_getIv (pc := 13) (v := M 91 3) k2_13 fg2_34 rfl rfl rfl ?_
    refine q_iand (pc := 16) k2_16 ?_
    refine q_aload_n (pc := 17) k2_17 rfl ?_
    refine q_getIv (pc := 18) (v := M 91 3) k2_18 fg2_34 rfl rfl rfl ?_
    refine q_icmp_ne (pc := 21) 34 k2_21 (by decide) (fun g2 => ?_) (fun g2 => ?_)
    · replace h := h.1 g2
      exact q_return (pc := 34) k2_34 rfl ⟨rfl, h⟩
    · replace h := h.2 g2
      refine q_aload_n (pc := 24) k2_24 rfl ?_
      refine q_dup (pc := 25) k2_25 rfl ?_
      refine q_getIv (pc := 26) (v := M 91 5) k2_26 fg2_40 rfl rfl rfl ?_
      refine q_iconst (pc := 29) (v := 1) k2_29 (by decide) ?_
      refine q_iadd (pc := 30) k2_30 ?_
      refine q_putI (pc := 31) k2_31 fp2_40 rfl rfl ?_
      exact q_return (pc := 34) k2_34 rfl ⟨rfl, h⟩
set_option maxRecDepth 20000 in
theorem vc2_91_p37 {X : Nat × (Nat → Int32)} {d : Nat} (hd : 0 < d) {M : q_M} {a1 a2 a3 : Int32} {K : q_M → Prop} (h : vp_in a1 3 ∧ ((((M 45 (Int32.toNatClampNeg a1)) ≤ a3) → (K M)) ∧ ((¬ (M 45 (Int32.toNatClampNeg a1)) ≤ a3) → ((((M 91 4) ≤ (M 91 5)) → (K M)) ∧ ((¬ (M 91 4) ≤ (M 91 5)) → (vp_in a1 3 ∧ (vp_in a3 126 ∧ (((¬ ((M (47 + Int32.toNatClampNeg a1) (Int32.toNatClampNeg a3)) &&& a2) = 0) → (q_Ex X d 2 37 [some (.ref 91), some (.int a1), some (.int a2), some (.int (a3 + 1)), none] [] M (q_rn K))) ∧ ((((M (47 + Int32.toNatClampNeg a1) (Int32.toNatClampNeg a3)) &&& a2) = 0) → (vp_in a1 3 ∧ (vp_in a1 3 ∧ (vp_in a3 126 ∧ ((((((M 93 (Int32.toNatClampNeg a1)) >>> ((M (51 + Int32.toNatClampNeg a1) (Int32.toNatClampNeg a3)) &&& 31)) &&& 1) = 0) → (q_Ex X d 2 37 [some (.ref 91), some (.int a1), some (.int a2), some (.int (a3 + 1)), none] [] M (q_rn K))) ∧ ((¬ (((M 93 (Int32.toNatClampNeg a1)) >>> ((M (51 + Int32.toNatClampNeg a1) (Int32.toNatClampNeg a3)) &&& 31)) &&& 1) = 0) → (vp_in a1 3 ∧ (q_Cv X (d - 1) 2 [.ref 91, .int (a1 + 1), .int (a2 ||| (M (47 + Int32.toNatClampNeg a1) (Int32.toNatClampNeg a3)))] (q_set M 92 (Int32.toNatClampNeg a1) (M (47 + Int32.toNatClampNeg a1) (Int32.toNatClampNeg a3))) (fun M7 => q_Ex X d 2 37 [some (.ref 91), some (.int a1), some (.int a2), some (.int (a3 + 1)), none] [] M7 (q_rn K)))))))))))))))))) : q_Ex X d 2 37 [some (.ref 91), some (.int a1), some (.int a2), some (.int a3), none] [] M (q_rn K) := by
  refine q_iload_n (pc := 37) k2_37 rfl ?_
  refine q_aload_n (pc := 38) k2_38 rfl ?_
  refine q_getR (pc := 39) k2_39 fg2_18 rfl rfl ?_
  refine q_getR (pc := 42) k2_42 fg2_47 rfl rfl ?_
  refine q_iload_n (pc := 45) k2_45 rfl ?_
  refine q_ialdv (pc := 46) (v := M 45 (Int32.toNatClampNeg a1)) k2_46 rfl h.1 rfl ?_
  replace h := h.2
  refine q_icmp_ge (pc := 47) 129 k2_47 (by decide) (fun g1 => ?_) (fun g1 => ?_)
  · replace h := h.1 g1
    exact q_return (pc := 129) k2_129 rfl ⟨rfl, h⟩
  · replace h := h.2 g1
    refine q_aload_n (pc := 50) k2_50 rfl ?_
    refine q_getIv (pc := 51) (v := M 91 5) k2_51 fg2_40 rfl rfl rfl ?_
    refine q_aload_n (pc := 54) k2_54 rfl ?_
    refine q_getIv (pc := 55) (v := M 91 4) k2_55 fg2_37 rfl rfl rfl ?_
    refine q_icmp_ge (pc := 58) 129 k2_58 (by decide) (fun g2 => ?_) (fun g2 => ?_)
    · replace h := h.1 g2
      exact q_return (pc := 129) k2_129 rfl ⟨rfl, h⟩
    · replace h := h.2 g2
      refine q_aload_n (pc := 61) k2_61 rfl ?_
      refine q_getR (pc := 62) k2_62 fg2_18 rfl rfl ?_
      refine q_getR (pc := 65) k2_65 fg2_50 rfl rfl ?_
      refine q_iload_n (pc := 68) k2_68 rfl ?_
      have w3 := h.1
      replace h := h.2
      refine q_aald (pc := 69) k2_69 rfl w3 ?_
      refine q_iload_n (pc := 70) k2_70 rfl ?_
      refine q_ialdv (pc := 71) (v := M (47 + Int32.toNatClampNeg a1) (Int32.toNatClampNeg a3)) k2_71 (rw46 w3) h.1 rfl ?_
      replace h := h.2
      refine q_istore (pc := 72) [some (.ref 91), some (.int a1), some (.int a2), some (.int a3), some (.int (M (47 + Int32.toNatClampNeg a1) (Int32.toNatClampNeg a3)))] k2_72 rfl (by decide) rfl ?_
      refine q_iload (pc := 74) k2_74 rfl ?_
      refine q_iload_n (pc := 76) k2_76 rfl ?_
      refine q_iand (pc := 77) k2_77 ?_
      refine q_if_ne (pc := 78) 123 k2_78 (by decide) (fun g4 => ?_) (fun g4 => ?_)
      · replace h := h.1 g4
        refine q_iinc (pc := 123) (v := a3 + 1) [some (.ref 91), some (.int a1), some (.int a2), some (.int (a3 + 1)), some (.int (M (47 + Int32.toNatClampNeg a1) (Int32.toNatClampNeg a3)))] k2_123 rfl rfl rfl (by decide) rfl ?_
        refine q_goto (pc := 126) 37 k2_126 (by decide) ?_
        exact q_forget [some (.ref 91), some (.int a1), some (.int a2), some (.int (a3 + 1)), none] (q_subOk (And.intro rfl (And.intro rfl (And.intro rfl (And.intro rfl (trivial)))))) h
      · replace h := h.2 g4
        refine q_aload_n (pc := 81) k2_81 rfl ?_
        refine q_getR (pc := 82) k2_82 fg2_15 rfl rfl ?_
        refine q_iload_n (pc := 85) k2_85 rfl ?_
        refine q_ialdv (pc := 86) (v := M 93 (Int32.toNatClampNeg a1)) k2_86 rfl h.1 rfl ?_
        replace h := h.2
        refine q_aload_n (pc := 87) k2_87 rfl ?_
        refine q_getR (pc := 88) k2_88 fg2_18 rfl rfl ?_
        refine q_getR (pc := 91) k2_91 fg2_54 rfl rfl ?_
        refine q_iload_n (pc := 94) k2_94 rfl ?_
        have w5 := h.1
        replace h := h.2
        refine q_aald (pc := 95) k2_95 rfl w5 ?_
        refine q_iload_n (pc := 96) k2_96 rfl ?_
        refine q_ialdv (pc := 97) (v := M (51 + Int32.toNatClampNeg a1) (Int32.toNatClampNeg a3)) k2_97 (rw50 w5) h.1 rfl ?_
        replace h := h.2
        refine q_ishr (pc := 98) k2_98 ?_
        refine q_iconst (pc := 99) (v := 1) k2_99 (by decide) ?_
        refine q_iand (pc := 100) k2_100 ?_
        refine q_if_eq (pc := 101) 123 k2_101 (by decide) (fun g6 => ?_) (fun g6 => ?_)
        · replace h := h.1 g6
          refine q_iinc (pc := 123) (v := a3 + 1) [some (.ref 91), some (.int a1), some (.int a2), some (.int (a3 + 1)), some (.int (M (47 + Int32.toNatClampNeg a1) (Int32.toNatClampNeg a3)))] k2_123 rfl rfl rfl (by decide) rfl ?_
          refine q_goto (pc := 126) 37 k2_126 (by decide) ?_
          exact q_forget [some (.ref 91), some (.int a1), some (.int a2), some (.int (a3 + 1)), none] (q_subOk (And.intro rfl (And.intro rfl (And.intro rfl (And.intro rfl (trivial)))))) h
        · replace h := h.2 g6
          refine q_aload_n (pc := 104) k2_104 rfl ?_
          refine q_getR (pc := 105) k2_105 fg2_9 rfl rfl ?_
          refine q_iload_n (pc := 108) k2_108 rfl ?_
          refine q_iload (pc := 109) k2_109 rfl ?_
          refine q_iastv (pc := 111) (k := (Int32.toNatClampNeg a1)) k2_111 rfl h.1 rfl ?_
          replace h := h.2
          refine q_aload_n (pc := 112) k2_112 rfl ?_
          refine q_iload_n (pc := 113) k2_113 rfl ?_
          refine q_iconst (pc := 114) (v := 1) k2_114 (by decide) ?_
          refine q_iadd (pc := 115) k2_115 ?_
          refine q_iload_n (pc := 116) k2_116 rfl ?_
          refine q_iload (pc := 117) k2_117 rfl ?_
          refine q_ior (pc := 119) k2_119 ?_
          refine q_invV (pc := 120) (As := [.int (a1 + 1), .int (a2 ||| (M (47 + Int32.toNatClampNeg a1) (Int32.toNatClampNeg a3)))]) (st := []) k2_120 lm2_43 ov2 rfl rfl rfl (q_cat rfl) (Nat.le_of_ble_eq_true rfl) hd h ?_
          rintro v M7 ⟨rfl, h⟩
          show q_Ex X d 2 (120 + 3) [some (.ref 91), some (.int a1), some (.int a2), some (.int a3), some (.int (M (47 + Int32.toNatClampNeg a1) (Int32.toNatClampNeg a3)))] [] M7 _
          refine q_iinc (pc := 123) (v := a3 + 1) [some (.ref 91), some (.int a1), some (.int a2), some (.int (a3 + 1)), some (.int (M (47 + Int32.toNatClampNeg a1) (Int32.toNatClampNeg a3)))] k2_123 rfl rfl rfl (by decide) rfl ?_
          refine q_goto (pc := 126) 37 k2_126 (by decide) ?_
          exact q_forget [some (.ref 91), some (.int a1), some (.int a2), some (.int (a3 + 1)), none] (q_subOk (And.intro rfl (And.intro rfl (And.intro rfl (And.intro rfl (trivial)))))) h
set_option maxRecDepth 20000 in
theorem vc1_94 {X : Nat × (Nat → Int32)} {d : Nat} {M : q_M} {a2 a3 a4 : Int32} {ra : Nat} {K : Int32 → q_M → Prop} (h : q_Ex X d 1 3 [some (.ref 94), some (.ref ra), some (.int a2), some (.int a3), some (.int a4), some (.int 0)] [] M (q_ri K)) : q_Ci X d 1 [.ref 94, .ref ra, .int a2, .int a3, .int a4] M K := by
  show q_Ex X d 1 0 [some (.ref 94), some (.ref ra), some (.int a2), some (.int a3), some (.int a4), none] [] M (q_ri K)
  refine q_iconst (pc := 0) (v := 0) k1_0 (by decide) ?_
  refine q_istore (pc := 1) [some (.ref 94), some (.ref ra), some (.int a2), some (.int a3), some (.int a4), some (.int 0)] k1_1 rfl (by decide) rfl ?_
  exact h
set_option maxRecDepth 20000 in
theorem vc1_94_p3 {X : Nat × (Nat → Int32)} {d : Nat} (hd : 0 < d) {M : q_M} {a2 a3 a4 a5 : Int32} {ra : Nat} {K : Int32 → q_M → Prop} (h : (((M 54 1) ≤ a5) → (q_Cv X (d - 1) 2 [.ref 94, .int 0, .int 0] (q_set (q_set (q_set M 94 3 a3) 94 4 a4) 94 5 0) (fun M2 => K (M2 94 5) M2))) ∧ ((¬ (M 54 1) ≤ a5) → (q_CV X (d - 1) 1 28 ra [.int a5, .int (M 54 1), .int a2] M (fun r3 M4 => vp_in a5 3 ∧ (q_Ex X d 1 3 [some (.ref 94), some (.ref ra), some (.int a2), some (.int a3), some (.int a4), some (.int (a5 + 1))] [] (q_set M4 96 (Int32.toNatClampNeg a5) r3) (q_ri K)))))) : q_Ex X d 1 3 [some (.ref 94), some (.ref ra), some (.int a2), some (.int a3), some (.int a4), some (.int a5)] [] M (q_ri K) := by
  refine q_iload (pc := 3) k1_3 rfl ?_
  refine q_aload_n (pc := 5) k1_5 rfl ?_
  refine q_getR (pc := 6) k1_6 fg1_18 rfl rfl ?_
  refine q_getIv (pc := 9) (v := M 54 1) k1_9 fg1_22 rfl rfl rfl ?_
  refine q_icmp_ge (pc := 12) 42 k1_12 (by decide) (fun g1 => ?_) (fun g1 => ?_)
  · replace h := h.1 g1
    refine q_aload_n (pc := 42) k1_42 rfl ?_
    refine q_iload_n (pc := 43) k1_43 rfl ?_
    refine q_putI (pc := 44) k1_44 fp1_34 rfl rfl ?_
    refine q_aload_n (pc := 47) k1_47 rfl ?_
    refine q_iload (pc := 48) k1_48 rfl ?_
    refine q_putI (pc := 50) k1_50 fp1_37 rfl rfl ?_
    refine q_aload_n (pc := 53) k1_53 rfl ?_
    refine q_iconst (pc := 54) (v := 0) k1_54 (by decide) ?_
    refine q_putI (pc := 55) k1_55 fp1_40 rfl rfl ?_
    refine q_aload_n (pc := 58) k1_58 rfl ?_
    refine q_iconst (pc := 59) (v := 0) k1_59 (by decide) ?_
    refine q_iconst (pc := 60) (v := 0) k1_60 (by decide) ?_
    refine q_invV (pc := 61) (As := [.int 0, .int 0]) (st := []) k1_61 lm1_43 ov2 rfl rfl rfl (q_cat rfl) (Nat.le_of_ble_eq_true rfl) hd h ?_
    rintro v M2 ⟨rfl, h⟩
    show q_Ex X d 1 (61 + 3) [some (.ref 94), some (.ref ra), some (.int a2), some (.int a3), some (.int a4), some (.int a5)] [] M2 _
    refine q_aload_n (pc := 64) k1_64 rfl ?_
    refine q_getIv (pc := 65) (v := M2 94 5) k1_65 fg1_40 rfl rfl rfl ?_
    exact q_ireturn (pc := 68) k1_68 rfl ⟨_, rfl, h⟩
  · replace h := h.2 g1
    refine q_aload_n (pc := 15) k1_15 rfl ?_
    refine q_getR (pc := 16) k1_16 fg1_15 rfl rfl ?_
    refine q_iload (pc := 19) k1_19 rfl ?_
    refine q_aload_n (pc := 21) k1_21 rfl ?_
    refine q_iload (pc := 22) k1_22 rfl ?_
    refine q_aload_n (pc := 24) k1_24 rfl ?_
    refine q_getR (pc := 25) k1_25 fg1_18 rfl rfl ?_
    refine q_getIv (pc := 28) (v := M 54 1) k1_28 fg1_22 rfl rfl rfl ?_
    refine q_iload_n (pc := 31) k1_31 rfl ?_
    refine q_invC (pc := 32) (As := [.int a5, .int (M 54 1), .int a2]) (st := [.int a5, .ref 96]) k1_32 rfl (q_cat rfl) (Nat.le_of_ble_eq_true rfl) hd h (fun r3 M4 h => ?_)
    refine q_iastv (pc := 35) (k := (Int32.toNatClampNeg a5)) k1_35 rfl h.1 rfl ?_
    replace h := h.2
    refine q_iinc (pc := 36) (v := a5 + 1) [some (.ref 94), some (.ref ra), some (.int a2), some (.int a3), some (.int a4), some (.int (a5 + 1))] k1_36 rfl rfl rfl (by decide) rfl ?_
    refine q_goto (pc := 39) 3 k1_39 (by decide) ?_
    exact h
set_option maxRecDepth 20000 in
theorem vc2_94 {X : Nat × (Nat → Int32)} {d : Nat} {M : q_M} {a1 a2 : Int32} {K : q_M → Prop} (h : ((a1 < (M 54 1)) → (q_Ex X d 2 37 [some (.ref 94), some (.int a1), some (.int a2), some (.int 0), none] [] M (q_rn K))) ∧ ((¬ a1 < (M 54 1)) → (((¬ (a2 &&& (M 94 3)) = (M 94 3)) → (K M)) ∧ (((a2 &&& (M 94 3)) = (M 94 3)) → (K (q_set M 94 5 ((M 94 5) + 1))))))) : q_Cv X d 2 [.ref 94, .int a1, .int a2] M K := by
  show q_Ex X d 2 0 [some (.ref 94), some (.int a1), some (.int a2), none, none] [] M (q_rn K)
  refine q_iload_n (pc := 0) k2_0 rfl ?_
  refine q_aload_n (pc := 1) k2_1 rfl ?_
  refine q_getR (pc := 2) k2_2 fg2_18 rfl rfl ?_
  refine q_getIv (pc := 5) (v := M 54 1) k2_5 fg2_22 rfl rfl rfl ?_
  refine q_icmp_lt (pc := 8) 35 k2_8 (by decide) (fun g1 => ?_) (fun g1 => ?_)
  · replace h := h.1 g1
    refine q_iconst (pc := 35) (v := 0) k2_35 (by decide) ?_
    refine q_istore_n (pc := 36) [some (.ref 94), some (.int a1), some (.int a2), some (.int 0), none] k2_36 rfl (by decide) rfl ?_
    exact h
  · replace h := h.2 g1
    refine q_iload_n (pc := 11) k2_11 rfl ?_
    refine q_aload_n (pc := 12) k2_12 rfl ?_
    refine q_getIv (pc := 13) (v := M 94 3) k2_13 fg2_34 rfl rfl rfl ?_
    refine q_iand (pc := 16) k2_16 ?_
    refine q_aload_n (pc := 17) k2_17 rfl ?_
    refine q_getIv (pc := 18) (v := M 94 3) k2_18 fg2_34 rfl rfl rfl ?_
    refine q_icmp_ne (pc := 21) 34 k2_21 (by decide) (fun g2 => ?_) (fun g2 => ?_)
    · replace h := h.1 g2
      exact q_return (pc := 34) k2_34 rfl ⟨rfl, h⟩
    · replace h := h.2 g2
      refine q_aload_n (pc := 24) k2_24 rfl ?_
      refine q_dup (pc := 25) k2_25 rfl ?_
      refine q_getIv (pc := 26) (v := M 94 5) k2_26 fg2_40 rfl rfl rfl ?_
      refine q_iconst (pc := 29) (v := 1) k2_29 (by decide) ?_
      refine q_iadd (pc := 30) k2_30 ?_
      refine q_putI (pc := 31) k2_31 fp2_40 rfl rfl ?_
      exact q_return (pc := 34) k2_34 rfl ⟨rfl, h⟩
set_option maxRecDepth 20000 in
theorem vc2_94_p37 {X : Nat × (Nat → Int32)} {d : Nat} (hd : 0 < d) {M : q_M} {a1 a2 a3 : Int32} {K : q_M → Prop} (h : vp_in a1 3 ∧ ((((M 55 (Int32.toNatClampNeg a1)) ≤ a3) → (K M)) ∧ ((¬ (M 55 (Int32.toNatClampNeg a1)) ≤ a3) → ((((M 94 4) ≤ (M 94 5)) → (K M)) ∧ ((¬ (M 94 4) ≤ (M 94 5)) → (vp_in a1 3 ∧ (vp_in a3 126 ∧ (((¬ ((M (57 + Int32.toNatClampNeg a1) (Int32.toNatClampNeg a3)) &&& a2) = 0) → (q_Ex X d 2 37 [some (.ref 94), some (.int a1), some (.int a2), some (.int (a3 + 1)), none] [] M (q_rn K))) ∧ ((((M (57 + Int32.toNatClampNeg a1) (Int32.toNatClampNeg a3)) &&& a2) = 0) → (vp_in a1 3 ∧ (vp_in a1 3 ∧ (vp_in a3 126 ∧ ((((((M 96 (Int32.toNatClampNeg a1)) >>> ((M (61 + Int32.toNatClampNeg a1) (Int32.toNatClampNeg a3)) &&& 31)) &&& 1) = 0) → (q_Ex X d 2 37 [some (.ref 94), some (.int a1), some (.int a2), some (.int (a3 + 1)), none] [] M (q_rn K))) ∧ ((¬ (((M 96 (Int32.toNatClampNeg a1)) >>> ((M (61 + Int32.toNatClampNeg a1) (Int32.toNatClampNeg a3)) &&& 31)) &&& 1) = 0) → (vp_in a1 3 ∧ (q_Cv X (d - 1) 2 [.ref 94, .int (a1 + 1), .int (a2 ||| (M (57 + Int32.toNatClampNeg a1) (Int32.toNatClampNeg a3)))] (q_set M 95 (Int32.toNatClampNeg a1) (M (57 + Int32.toNatClampNeg a1) (Int32.toNatClampNeg a3))) (fun M7 => q_Ex X d 2 37 [some (.ref 94), some (.int a1), some (.int a2), some (.int (a3 + 1)), none] [] M7 (q_rn K)))))))))))))))))) : q_Ex X d 2 37 [some (.ref 94), some (.int a1), some (.int a2), some (.int a3), none] [] M (q_rn K) := by
  refine q_iload_n (pc := 37) k2_37 rfl ?_
  refine q_aload_n (pc := 38) k2_38 rfl ?_
  refine q_getR (pc := 39) k2_39 fg2_18 rfl rfl ?_
  refine q_getR (pc := 42) k2_42 fg2_47 rfl rfl ?_
  refine q_iload_n (pc := 45) k2_45 rfl ?_
  refine q_ialdv (pc := 46) (v := M 55 (Int32.toNatClampNeg a1)) k2_46 rfl h.1 rfl ?_
  replace h := h.2
  refine q_icmp_ge (pc := 47) 129 k2_47 (by decide) (fun g1 => ?_) (fun g1 => ?_)
  · replace h := h.1 g1
    exact q_return (pc := 129) k2_129 rfl ⟨rfl, h⟩
  · replace h := h.2 g1
    refine q_aload_n (pc := 50) k2_50 rfl ?_
    refine q_getIv (pc := 51) (v := M 94 5) k2_51 fg2_40 rfl rfl rfl ?_
    refine q_aload_n (pc := 54) k2_54 rfl ?_
    refine q_getIv (pc := 55) (v := M 94 4) k2_55 fg2_37 rfl rfl rfl ?_
    refine q_icmp_ge (pc := 58) 129 k2_58 (by decide) (fun g2 => ?_) (fun g2 => ?_)
    · replace h := h.1 g2
      exact q_return (pc := 129) k2_129 rfl ⟨rfl, h⟩
    · replace h := h.2 g2
      refine q_aload_n (pc := 61) k2_61 rfl ?_
      refine q_getR (pc := 62) k2_62 fg2_18 rfl rfl ?_
      refine q_getR (pc := 65) k2_65 fg2_50 rfl rfl ?_
      refine q_iload_n (pc := 68) k2_68 rfl ?_
      have w3 := h.1
      replace h := h.2
      refine q_aald (pc := 69) k2_69 rfl w3 ?_
      refine q_iload_n (pc := 70) k2_70 rfl ?_
      refine q_ialdv (pc := 71) (v := M (57 + Int32.toNatClampNeg a1) (Int32.toNatClampNeg a3)) k2_71 (rw56 w3) h.1 rfl ?_
      replace h := h.2
      refine q_istore (pc := 72) [some (.ref 94), some (.int a1), some (.int a2), some (.int a3), some (.int (M (57 + Int32.toNatClampNeg a1) (Int32.toNatClampNeg a3)))] k2_72 rfl (by decide) rfl ?_
      refine q_iload (pc := 74) k2_74 rfl ?_
      refine q_iload_n (pc := 76) k2_76 rfl ?_
      refine q_iand (pc := 77) k2_77 ?_
      refine q_if_ne (pc := 78) 123 k2_78 (by decide) (fun g4 => ?_) (fun g4 => ?_)
      · replace h := h.1 g4
        refine q_iinc (pc := 123) (v := a3 + 1) [some (.ref 94), some (.int a1), some (.int a2), some (.int (a3 + 1)), some (.int (M (57 + Int32.toNatClampNeg a1) (Int32.toNatClampNeg a3)))] k2_123 rfl rfl rfl (by decide) rfl ?_
        refine q_goto (pc := 126) 37 k2_126 (by decide) ?_
        exact q_forget [some (.ref 94), some (.int a1), some (.int a2), some (.int (a3 + 1)), none] (q_subOk (And.intro rfl (And.intro rfl (And.intro rfl (And.intro rfl (trivial)))))) h
      · replace h := h.2 g4
        refine q_aload_n (pc := 81) k2_81 rfl ?_
        refine q_getR (pc := 82) k2_82 fg2_15 rfl rfl ?_
        refine q_iload_n (pc := 85) k2_85 rfl ?_
        refine q_ialdv (pc := 86) (v := M 96 (Int32.toNatClampNeg a1)) k2_86 rfl h.1 rfl ?_
        replace h := h.2
        refine q_aload_n (pc := 87) k2_87 rfl ?_
        refine q_getR (pc := 88) k2_88 fg2_18 rfl rfl ?_
        refine q_getR (pc := 91) k2_91 fg2_54 rfl rfl ?_
        refine q_iload_n (pc := 94) k2_94 rfl ?_
        have w5 := h.1
        replace h := h.2
        refine q_aald (pc := 95) k2_95 rfl w5 ?_
        refine q_iload_n (pc := 96) k2_96 rfl ?_
        refine q_ialdv (pc := 97) (v := M (61 + Int32.toNatClampNeg a1) (Int32.toNatClampNeg a3)) k2_97 (rw60 w5) h.1 rfl ?_
        replace h := h.2
        refine q_ishr (pc := 98) k2_98 ?_
        refine q_iconst (pc := 99) (v := 1) k2_99 (by decide) ?_
        refine q_iand (pc := 100) k2_100 ?_
        refine q_if_eq (pc := 101) 123 k2_101 (by decide) (fun g6 => ?_) (fun g6 => ?_)
        · replace h := h.1 g6
          refine q_iinc (pc := 123) (v := a3 + 1) [some (.ref 94), some (.int a1), some (.int a2), some (.int (a3 + 1)), some (.int (M (57 + Int32.toNatClampNeg a1) (Int32.toNatClampNeg a3)))] k2_123 rfl rfl rfl (by decide) rfl ?_
          refine q_goto (pc := 126) 37 k2_126 (by decide) ?_
          exact q_forget [some (.ref 94), some (.int a1), some (.int a2), some (.int (a3 + 1)), none] (q_subOk (And.intro rfl (And.intro rfl (And.intro rfl (And.intro rfl (trivial)))))) h
        · replace h := h.2 g6
          refine q_aload_n (pc := 104) k2_104 rfl ?_
          refine q_getR (pc := 105) k2_105 fg2_9 rfl rfl ?_
          refine q_iload_n (pc := 108) k2_108 rfl ?_
          refine q_iload (pc := 109) k2_109 rfl ?_
          refine q_iastv (pc := 111) (k := (Int32.toNatClampNeg a1)) k2_111 rfl h.1 rfl ?_
          replace h := h.2
          refine q_aload_n (pc := 112) k2_112 rfl ?_
          refine q_iload_n (pc := 113) k2_113 rfl ?_
          refine q_iconst (pc := 114) (v := 1) k2_114 (by decide) ?_
          refine q_iadd (pc := 115) k2_115 ?_
          refine q_iload_n (pc := 116) k2_116 rfl ?_
          refine q_iload (pc := 117) k2_117 rfl ?_
          refine q_ior (pc := 119) k2_119 ?_
          refine q_invV (pc := 120) (As := [.int (a1 + 1), .int (a2 ||| (M (57 + Int32.toNatClampNeg a1) (Int32.toNatClampNeg a3)))]) (st := []) k2_120 lm2_43 ov2 rfl rfl rfl (q_cat rfl) (Nat.le_of_ble_eq_true rfl) hd h ?_
          rintro v M7 ⟨rfl, h⟩
          show q_Ex X d 2 (120 + 3) [some (.ref 94), some (.int a1), some (.int a2), some (.int a3), some (.int (M (57 + Int32.toNatClampNeg a1) (Int32.toNatClampNeg a3)))] [] M7 _
          refine q_iinc (pc := 123) (v := a3 + 1) [some (.ref 94), some (.int a1), some (.int a2), some (.int (a3 + 1)), some (.int (M (57 + Int32.toNatClampNeg a1) (Int32.toNatClampNeg a3)))] k2_123 rfl rfl rfl (by decide) rfl ?_
          refine q_goto (pc := 126) 37 k2_126 (by decide) ?_
          exact q_forget [some (.ref 94), some (.int a1), some (.int a2), some (.int (a3 + 1)), none] (q_subOk (And.intro rfl (And.intro rfl (And.intro rfl (And.intro rfl (trivial)))))) h
set_option maxRecDepth 20000 in
theorem vc3_24_10 {X : Nat × (Nat → Int32)} {d : Nat} (hd : 0 < d) {M : q_M} {K : q_M → Prop} (h : q_Cv X (d - 1) 15 [.ref 25, .ref 11] M (fun M1 => q_Ex X d 3 73 [some (.ref 24), some (.ref 10), some (.int 0)] [] (q_row (q_row (q_set (q_set (q_set (q_set M1 24 1 (M1 10 1)) 24 2 (M1 10 2)) 24 3 (M1 10 3)) 24 4 (M1 10 4)) 32 (va_cpy (M1 18) (M1 32) 0 0 4)) 33 (va_cpy (M1 19) (M1 33) 0 0 3)) (q_rn K))) : q_Cv X d 3 [.ref 24, .ref 10] M K := by
  show q_Ex X d 3 0 [some (.ref 24), some (.ref 10), none] [] M (q_rn K)
  refine q_aload_n (pc := 0) k3_0 rfl ?_
  refine q_getR (pc := 1) k3_1 fg3_12 rfl rfl ?_
  refine q_aload_n (pc := 4) k3_4 rfl ?_
  refine q_getR (pc := 5) k3_5 fg3_12 rfl rfl ?_
  refine q_invV (pc := 8) (As := [.ref 11]) (st := []) k3_8 lm3_34 ov15 rfl rfl rfl (q_cat rfl) (Nat.le_of_ble_eq_true rfl) hd h ?_
  rintro v M1 ⟨rfl, h⟩
  show q_Ex X d 3 (8 + 3) [some (.ref 24), some (.ref 10), none] [] M1 _
  refine q_aload_n (pc := 11) k3_11 rfl ?_
  refine q_aload_n (pc := 12) k3_12 rfl ?_
  refine q_getIv (pc := 13) (v := M1 10 1) k3_13 fg3_38 rfl rfl rfl ?_
  refine q_putI (pc := 16) k3_16 fp3_38 rfl rfl ?_
  refine q_aload_n (pc := 19) k3_19 rfl ?_
  refine q_aload_n (pc := 20) k3_20 rfl ?_
  refine q_getIv (pc := 21) (v := M1 10 2) k3_21 fg3_18 rfl rfl rfl ?_
  refine q_putI (pc := 24) k3_24 fp3_18 rfl rfl ?_
  refine q_aload_n (pc := 27) k3_27 rfl ?_
  refine q_aload_n (pc := 28) k3_28 rfl ?_
  refine q_getIv (pc := 29) (v := M1 10 3) k3_29 fg3_41 rfl rfl rfl ?_
  refine q_putI (pc := 32) k3_32 fp3_41 rfl rfl ?_
  refine q_aload_n (pc := 35) k3_35 rfl ?_
  refine q_aload_n (pc := 36) k3_36 rfl ?_
  refine q_getIv (pc := 37) (v := M1 10 4) k3_37 fg3_44 rfl rfl rfl ?_
  refine q_putI (pc := 40) k3_40 fp3_44 rfl rfl ?_
  refine q_aload_n (pc := 43) k3_43 rfl ?_
  refine q_getR (pc := 44) k3_44 fg3_22 rfl rfl ?_
  refine q_iconst (pc := 47) (v := 0) k3_47 (by decide) ?_
  refine q_aload_n (pc := 48) k3_48 rfl ?_
  refine q_getR (pc := 49) k3_49 fg3_22 rfl rfl ?_
  refine q_iconst (pc := 52) (v := 0) k3_52 (by decide) ?_
  refine q_iconst (pc := 53) (v := 4) k3_53 (by decide) ?_
  refine q_copyv (pc := 54) (f := va_cpy (M1 18) (M1 32) 0 0 4) k3_54 lc3_47 oc_copy rfl rfl rfl rfl (by decide) (by decide) (by decide) (Nat.le_of_ble_eq_true rfl) rfl ?_
  refine q_aload_n (pc := 57) k3_57 rfl ?_
  refine q_getR (pc := 58) k3_58 fg3_26 rfl rfl ?_
  refine q_iconst (pc := 61) (v := 0) k3_61 (by decide) ?_
  refine q_aload_n (pc := 62) k3_62 rfl ?_
  refine q_getR (pc := 63) k3_63 fg3_26 rfl rfl ?_
  refine q_iconst (pc := 66) (v := 0) k3_66 (by decide) ?_
  refine q_iconst (pc := 67) (v := 3) k3_67 (by decide) ?_
  refine q_copyv (pc := 68) (f := va_cpy (M1 19) (M1 33) 0 0 3) k3_68 lc3_47 oc_copy rfl rfl rfl rfl (by decide) (by decide) (by decide) (Nat.le_of_ble_eq_true rfl) rfl ?_
  refine q_iconst (pc := 71) (v := 0) k3_71 (by decide) ?_
  refine q_istore_n (pc := 72) [some (.ref 24), some (.ref 10), some (.int 0)] k3_72 rfl (by decide) rfl ?_
  exact h
set_option maxRecDepth 20000 in
theorem vc3_24_10_p73 {X : Nat × (Nat → Int32)} {d : Nat} (hd : 0 < d) {M : q_M} {a2 : Int32} {K : q_M → Prop} (h : ((3 ≤ a2) → (K M)) ∧ ((¬ 3 ≤ a2) → (vp_in a2 3 ∧ (vp_in a2 3 ∧ (q_Ex X d 3 73 [some (.ref 24), some (.ref 10), some (.int (a2 + 1))] [] (q_row M (35 + Int32.toNatClampNeg a2) (va_cpy (M (21 + Int32.toNatClampNeg a2)) (M (35 + Int32.toNatClampNeg a2)) 0 0 10)) (q_rn K)))))) : q_Ex X d 3 73 [some (.ref 24), some (.ref 10), some (.int a2)] [] M (q_rn K) := by
  refine q_iload_n (pc := 73) k3_73 rfl ?_
  refine q_iconst (pc := 74) (v := 3) k3_74 (by decide) ?_
  refine q_icmp_ge (pc := 75) 103 k3_75 (by decide) (fun g1 => ?_) (fun g1 => ?_)
  · replace h := h.1 g1
    exact q_return (pc := 103) k3_103 rfl ⟨rfl, h⟩
  · replace h := h.2 g1
    refine q_aload_n (pc := 78) k3_78 rfl ?_
    refine q_getR (pc := 79) k3_79 fg3_31 rfl rfl ?_
    refine q_iload_n (pc := 82) k3_82 rfl ?_
    have w2 := h.1
    replace h := h.2
    refine q_aald (pc := 83) k3_83 rfl w2 ?_
    refine q_iconst (pc := 84) (v := 0) k3_84 (by decide) ?_
    refine q_aload_n (pc := 85) k3_85 rfl ?_
    refine q_getR (pc := 86) k3_86 fg3_31 rfl rfl ?_
    refine q_iload_n (pc := 89) k3_89 rfl ?_
    have w3 := h.1
    replace h := h.2
    refine q_aald (pc := 90) k3_90 rfl w3 ?_
    refine q_iconst (pc := 91) (v := 0) k3_91 (by decide) ?_
    refine q_bipush (pc := 92) (v := 10) k3_92 (by decide) ?_
    refine q_copyv (pc := 94) (f := va_cpy (M (21 + Int32.toNatClampNeg a2)) (M (35 + Int32.toNatClampNeg a2)) 0 0 10) k3_94 lc3_47 oc_copy (rw20 w2) (rw34 w3) rfl rfl (by decide) (by decide) (by decide) (Nat.le_of_ble_eq_true rfl) rfl ?_
    refine q_iinc (pc := 97) (v := a2 + 1) [some (.ref 24), some (.ref 10), some (.int (a2 + 1))] k3_97 rfl rfl rfl (by decide) rfl ?_
    refine q_goto (pc := 100) 73 k3_100 (by decide) ?_
    exact h
set_option maxRecDepth 20000 in
theorem vc3_10_24 {X : Nat × (Nat → Int32)} {d : Nat} (hd : 0 < d) {M : q_M} {K : q_M → Prop} (h : q_Cv X (d - 1) 15 [.ref 11, .ref 25] M (fun M1 => q_Ex X d 3 73 [some (.ref 10), some (.ref 24), some (.int 0)] [] (q_row (q_row (q_set (q_set (q_set (q_set M1 10 1 (M1 24 1)) 10 2 (M1 24 2)) 10 3 (M1 24 3)) 10 4 (M1 24 4)) 18 (va_cpy (M1 32) (M1 18) 0 0 4)) 19 (va_cpy (M1 33) (M1 19) 0 0 3)) (q_rn K))) : q_Cv X d 3 [.ref 10, .ref 24] M K := by
  show q_Ex X d 3 0 [some (.ref 10), some (.ref 24), none] [] M (q_rn K)
  refine q_aload_n (pc := 0) k3_0 rfl ?_
  refine q_getR (pc := 1) k3_1 fg3_12 rfl rfl ?_
  refine q_aload_n (pc := 4) k3_4 rfl ?_
  refine q_getR (pc := 5) k3_5 fg3_12 rfl rfl ?_
  refine q_invV (pc := 8) (As := [.ref 25]) (st := []) k3_8 lm3_34 ov15 rfl rfl rfl (q_cat rfl) (Nat.le_of_ble_eq_true rfl) hd h ?_
  rintro v M1 ⟨rfl, h⟩
  show q_Ex X d 3 (8 + 3) [some (.ref 10), some (.ref 24), none] [] M1 _
  refine q_aload_n (pc := 11) k3_11 rfl ?_
  refine q_aload_n (pc := 12) k3_12 rfl ?_
  refine q_getIv (pc := 13) (v := M1 24 1) k3_13 fg3_38 rfl rfl rfl ?_
  refine q_putI (pc := 16) k3_16 fp3_38 rfl rfl ?_
  refine q_aload_n (pc := 19) k3_19 rfl ?_
  refine q_aload_n (pc := 20) k3_20 rfl ?_
  refine q_getIv (pc := 21) (v := M1 24 2) k3_21 fg3_18 rfl rfl rfl ?_
  refine q_putI (pc := 24) k3_24 fp3_18 rfl rfl ?_
  refine q_aload_n (pc := 27) k3_27 rfl ?_
  refine q_aload_n (pc := 28) k3_28 rfl ?_
  refine q_getIv (pc := 29) (v := M1 24 3) k3_29 fg3_41 rfl rfl rfl ?_
  refine q_putI (pc := 32) k3_32 fp3_41 rfl rfl ?_
  refine q_aload_n (pc := 35) k3_35 rfl ?_
  refine q_aload_n (pc := 36) k3_36 rfl ?_
  refine q_getIv (pc := 37) (v := M1 24 4) k3_37 fg3_44 rfl rfl rfl ?_
  refine q_putI (pc := 40) k3_40 fp3_44 rfl rfl ?_
  refine q_aload_n (pc := 43) k3_43 rfl ?_
  refine q_getR (pc := 44) k3_44 fg3_22 rfl rfl ?_
  refine q_iconst (pc := 47) (v := 0) k3_47 (by decide) ?_
  refine q_aload_n (pc := 48) k3_48 rfl ?_
  refine q_getR (pc := 49) k3_49 fg3_22 rfl rfl ?_
  refine q_iconst (pc := 52) (v := 0) k3_52 (by decide) ?_
  refine q_iconst (pc := 53) (v := 4) k3_53 (by decide) ?_
  refine q_copyv (pc := 54) (f := va_cpy (M1 32) (M1 18) 0 0 4) k3_54 lc3_47 oc_copy rfl rfl rfl rfl (by decide) (by decide) (by decide) (Nat.le_of_ble_eq_true rfl) rfl ?_
  refine q_aload_n (pc := 57) k3_57 rfl ?_
  refine q_getR (pc := 58) k3_58 fg3_26 rfl rfl ?_
  refine q_iconst (pc := 61) (v := 0) k3_61 (by decide) ?_
  refine q_aload_n (pc := 62) k3_62 rfl ?_
  refine q_getR (pc := 63) k3_63 fg3_26 rfl rfl ?_
  refine q_iconst (pc := 66) (v := 0) k3_66 (by decide) ?_
  refine q_iconst (pc := 67) (v := 3) k3_67 (by decide) ?_
  refine q_copyv (pc := 68) (f := va_cpy (M1 33) (M1 19) 0 0 3) k3_68 lc3_47 oc_copy rfl rfl rfl rfl (by decide) (by decide) (by decide) (Nat.le_of_ble_eq_true rfl) rfl ?_
  refine q_iconst (pc := 71) (v := 0) k3_71 (by decide) ?_
  refine q_istore_n (pc := 72) [some (.ref 10), some (.ref 24), some (.int 0)] k3_72 rfl (by decide) rfl ?_
  exact h
set_option maxRecDepth 20000 in
theorem vc3_10_24_p73 {X : Nat × (Nat → Int32)} {d : Nat} (hd : 0 < d) {M : q_M} {a2 : Int32} {K : q_M → Prop} (h : ((3 ≤ a2) → (K M)) ∧ ((¬ 3 ≤ a2) → (vp_in a2 3 ∧ (vp_in a2 3 ∧ (q_Ex X d 3 73 [some (.ref 10), some (.ref 24), some (.int (a2 + 1))] [] (q_row M (21 + Int32.toNatClampNeg a2) (va_cpy (M (35 + Int32.toNatClampNeg a2)) (M (21 + Int32.toNatClampNeg a2)) 0 0 10)) (q_rn K)))))) : q_Ex X d 3 73 [some (.ref 10), some (.ref 24), some (.int a2)] [] M (q_rn K) := by
  refine q_iload_n (pc := 73) k3_73 rfl ?_
  refine q_iconst (pc := 74) (v := 3) k3_74 (by decide) ?_
  refine q_icmp_ge (pc := 75) 103 k3_75 (by decide) (fun g1 => ?_) (fun g1 => ?_)
  · replace h := h.1 g1
    exact q_return (pc := 103) k3_103 rfl ⟨rfl, h⟩
  · replace h := h.2 g1
    refine q_aload_n (pc := 78) k3_78 rfl ?_
    refine q_getR (pc := 79) k3_79 fg3_31 rfl rfl ?_
    refine q_iload_n (pc := 82) k3_82 rfl ?_
    have w2 := h.1
    replace h := h.2
    refine q_aald (pc := 83) k3_83 rfl w2 ?_
    refine q_iconst (pc := 84) (v := 0) k3_84 (by decide) ?_
    refine q_aload_n (pc := 85) k3_85 rfl ?_
    refine q_getR (pc := 86) k3_86 fg3_31 rfl rfl ?_
    refine q_iload_n (pc := 89) k3_89 rfl ?_
    have w3 := h.1
    replace h := h.2
    refine q_aald (pc := 90) k3_90 rfl w3 ?_
    refine q_iconst (pc := 91) (v := 0) k3_91 (by decide) ?_
    refine q_bipush (pc := 92) (v := 10) k3_92 (by decide) ?_
    refine q_copyv (pc := 94) (f := va_cpy (M (35 + Int32.toNatClampNeg a2)) (M (21 + Int32.toNatClampNeg a2)) 0 0 10) k3_94 lc3_47 oc_copy (rw34 w2) (rw20 w3) rfl rfl (by decide) (by decide) (by decide) (Nat.le_of_ble_eq_true rfl) rfl ?_
    refine q_iinc (pc := 97) (v := a2 + 1) [some (.ref 10), some (.ref 24), some (.int (a2 + 1))] k3_97 rfl rfl rfl (by decide) rfl ?_
    refine q_goto (pc := 100) 73 k3_100 (by decide) ?_
    exact h
set_option maxRecDepth 20000 in
theorem vc4 {X : Nat × (Nat → Int32)} {d : Nat} (hd : 0 < d) {M : q_M} {a2 : Int32} {K : q_M → Prop} (h : q_Cv X (d - 1) 15 [.ref 11, .ref 3] M (fun M1 => q_Ci X (d - 1) 88 [.int (M1 11 4)] (q_set M1 10 1 a2) (fun r3 M2 => q_Ci X (d - 1) 5 [.ref 10] (q_set M2 10 3 r3) (fun r5 M4 => K M4)))) : q_Cv X d 4 [.ref 10, .ref 3, .int a2] M K := by
  show q_Ex X d 4 0 [some (.ref 10), some (.ref 3), some (.int a2)] [] M (q_rn K)
  refine q_aload_n (pc := 0) k4_0 rfl ?_
  refine q_getR (pc := 1) k4_1 fg4_12 rfl rfl ?_
  refine q_aload_n (pc := 4) k4_4 rfl ?_
  refine q_invV (pc := 5) (As := [.ref 3]) (st := []) k4_5 lm4_34 ov15 rfl rfl rfl (q_cat rfl) (Nat.le_of_ble_eq_true rfl) hd h ?_
  rintro v M1 ⟨rfl, h⟩
  show q_Ex X d 4 (5 + 3) [some (.ref 10), some (.ref 3), some (.int a2)] [] M1 _
  refine q_aload_n (pc := 8) k4_8 rfl ?_
  refine q_iload_n (pc := 9) k4_9 rfl ?_
  refine q_putI (pc := 10) k4_10 fp4_38 rfl rfl ?_
  refine q_aload_n (pc := 13) k4_13 rfl ?_
  refine q_aload_n (pc := 14) k4_14 rfl ?_
  refine q_getR (pc := 15) k4_15 fg4_12 rfl rfl ?_
  refine q_getIv (pc := 18) (v := M1 11 4) k4_18 fg4_53 rfl rfl rfl ?_
  refine q_invSN (pc := 21) (As := [.int (M1 11 4)]) (st := [.ref 10]) k4_21 lm4_56 os88 rfl rfl (q_cat rfl) (Nat.le_of_ble_eq_true rfl) hd h ?_
  rintro v M2 ⟨r3, rfl, h⟩
  show q_Ex X d 4 (21 + 3) [some (.ref 10), some (.ref 3), some (.int a2)] [.int r3, .ref 10] M2 _
  refine q_putI (pc := 24) k4_24 fp4_41 rfl rfl ?_
  refine q_aload_n (pc := 27) k4_27 rfl ?_
  refine q_invV (pc := 28) (As := []) (st := []) k4_28 lm4_60 ov5 rfl rfl rfl (q_cat rfl) (Nat.le_of_ble_eq_true rfl) hd h ?_
  rintro v M4 ⟨r5, rfl, h⟩
  show q_Ex X d 4 (28 + 3) [some (.ref 10), some (.ref 3), some (.int a2)] [.int r5] M4 _
  refine q_pop (pc := 31) k4_31 rfl ?_
  exact q_return (pc := 32) k4_32 rfl ⟨rfl, h⟩
set_option maxRecDepth 20000 in
theorem vc5 {X : Nat × (Nat → Int32)} {d : Nat} {M : q_M} {K : Int32 → q_M → Prop} (h : q_Ex X d 5 4 [some (.ref 10), some (.int 0), some (.int 0)] [] M (q_ri K)) : q_Ci X d 5 [.ref 10] M K := by
  show q_Ex X d 5 0 [some (.ref 10), none, none] [] M (q_ri K)
  refine q_iconst (pc := 0) (v := 0) k5_0 (by decide) ?_
  refine q_istore_n (pc := 1) [some (.ref 10), some (.int 0), none] k5_1 rfl (by decide) rfl ?_
  refine q_iconst (pc := 2) (v := 0) k5_2 (by decide) ?_
  refine q_istore_n (pc := 3) [some (.ref 10), some (.int 0), some (.int 0)] k5_3 rfl (by decide) rfl ?_
  exact h
set_option maxRecDepth 20000 in
theorem vc5_p4 {X : Nat × (Nat → Int32)} {d : Nat} {M : q_M} {a1 a2 : Int32} {K : Int32 → q_M → Prop} (h : ((3 ≤ a2) → (K a1 (q_set M 10 4 0))) ∧ ((¬ 3 ≤ a2) → (vp_in a2 3 ∧ (vp_in a2 3 ∧ (q_Ex X d 5 4 [some (.ref 10), some (.int (a1 + (M 19 (Int32.toNatClampNeg a2)))), some (.int (a2 + 1))] [] (q_set M 19 (Int32.toNatClampNeg a2) 0) (q_ri K)))))) : q_Ex X d 5 4 [some (.ref 10), some (.int a1), some (.int a2)] [] M (q_ri K) := by
  refine q_iload_n (pc := 4) k5_4 rfl ?_
  refine q_iconst (pc := 5) (v := 3) k5_5 (by decide) ?_
  refine q_icmp_ge (pc := 6) 31 k5_6 (by decide) (fun g1 => ?_) (fun g1 => ?_)
  · replace h := h.1 g1
    refine q_aload_n (pc := 31) k5_31 rfl ?_
    refine q_iconst (pc := 32) (v := 0) k5_32 (by decide) ?_
    refine q_putI (pc := 33) k5_33 fp5_44 rfl rfl ?_
    refine q_iload_n (pc := 36) k5_36 rfl ?_
    exact q_ireturn (pc := 37) k5_37 rfl ⟨_, rfl, h⟩
  · replace h := h.2 g1
    refine q_iload_n (pc := 9) k5_9 rfl ?_
    refine q_aload_n (pc := 10) k5_10 rfl ?_
    refine q_getR (pc := 11) k5_11 fg5_26 rfl rfl ?_
    refine q_iload_n (pc := 14) k5_14 rfl ?_
    refine q_ialdv (pc := 15) (v := M 19 (Int32.toNatClampNeg a2)) k5_15 rfl h.1 rfl ?_
    replace h := h.2
    refine q_iadd (pc := 16) k5_16 ?_
    refine q_istore_n (pc := 17) [some (.ref 10), some (.int (a1 + (M 19 (Int32.toNatClampNeg a2)))), some (.int a2)] k5_17 rfl (by decide) rfl ?_
    refine q_aload_n (pc := 18) k5_18 rfl ?_
    refine q_getR (pc := 19) k5_19 fg5_26 rfl rfl ?_
    refine q_iload_n (pc := 22) k5_22 rfl ?_
    refine q_iconst (pc := 23) (v := 0) k5_23 (by decide) ?_
    refine q_iastv (pc := 24) (k := (Int32.toNatClampNeg a2)) k5_24 rfl h.1 rfl ?_
    replace h := h.2
    refine q_iinc (pc := 25) (v := a2 + 1) [some (.ref 10), some (.int (a1 + (M 19 (Int32.toNatClampNeg a2)))), some (.int (a2 + 1))] k5_25 rfl rfl rfl (by decide) rfl ?_
    refine q_goto (pc := 28) 4 k5_28 (by decide) ?_
    exact h
set_option maxRecDepth 20000 in
theorem vc6 {X : Nat × (Nat → Int32)} {d : Nat} {M : q_M} {K : Int32 → q_M → Prop} (h : q_Ex X d 6 4 [some (.ref 10), some (.int 0), some (.int 0)] [] M (q_ri K)) : q_Ci X d 6 [.ref 10] M K := by
  show q_Ex X d 6 0 [some (.ref 10), none, none] [] M (q_ri K)
  refine q_iconst (pc := 0) (v := 0) k6_0 (by decide) ?_
  refine q_istore_n (pc := 1) [some (.ref 10), some (.int 0), none] k6_1 rfl (by decide) rfl ?_
  refine q_iconst (pc := 2) (v := 0) k6_2 (by decide) ?_
  refine q_istore_n (pc := 3) [some (.ref 10), some (.int 0), some (.int 0)] k6_3 rfl (by decide) rfl ?_
  exact h
set_option maxRecDepth 20000 in
theorem vc6_p4 {X : Nat × (Nat → Int32)} {d : Nat} {M : q_M} {a1 a2 : Int32} {K : Int32 → q_M → Prop} (h : (((M 10 4) ≤ a2) → (K a1 M)) ∧ ((¬ (M 10 4) ≤ a2) → (vp_in a2 4 ∧ (q_Ex X d 6 4 [some (.ref 10), some (.int (a1 ||| ((1 : Int32) <<< ((M 18 (Int32.toNatClampNeg a2)) &&& 31)))), some (.int (a2 + 1))] [] M (q_ri K))))) : q_Ex X d 6 4 [some (.ref 10), some (.int a1), some (.int a2)] [] M (q_ri K) := by
  refine q_iload_n (pc := 4) k6_4 rfl ?_
  refine q_aload_n (pc := 5) k6_5 rfl ?_
  refine q_getIv (pc := 6) (v := M 10 4) k6_6 fg6_44 rfl rfl rfl ?_
  refine q_icmp_ge (pc := 9) 29 k6_9 (by decide) (fun g1 => ?_) (fun g1 => ?_)
  · replace h := h.1 g1
    refine q_iload_n (pc := 29) k6_29 rfl ?_
    exact q_ireturn (pc := 30) k6_30 rfl ⟨_, rfl, h⟩
  · replace h := h.2 g1
    refine q_iload_n (pc := 12) k6_12 rfl ?_
    refine q_iconst (pc := 13) (v := 1) k6_13 (by decide) ?_
    refine q_aload_n (pc := 14) k6_14 rfl ?_
    refine q_getR (pc := 15) k6_15 fg6_22 rfl rfl ?_
    refine q_iload_n (pc := 18) k6_18 rfl ?_
    refine q_ialdv (pc := 19) (v := M 18 (Int32.toNatClampNeg a2)) k6_19 rfl h.1 rfl ?_
    replace h := h.2
    refine q_ishl (pc := 20) k6_20 ?_
    refine q_ior (pc := 21) k6_21 ?_
    refine q_istore_n (pc := 22) [some (.ref 10), some (.int (a1 ||| ((1 : Int32) <<< ((M 18 (Int32.toNatClampNeg a2)) &&& 31)))), some (.int a2)] k6_22 rfl (by decide) rfl ?_
    refine q_iinc (pc := 23) (v := a2 + 1) [some (.ref 10), some (.int (a1 ||| ((1 : Int32) <<< ((M 18 (Int32.toNatClampNeg a2)) &&& 31)))), some (.int (a2 + 1))] k6_23 rfl rfl rfl (by decide) rfl ?_
    refine q_goto (pc := 26) 4 k6_26 (by decide) ?_
    exact h
set_option maxRecDepth 20000 in
theorem vc7 {X : Nat × (Nat → Int32)} {d : Nat} {M : q_M} {K : Int32 → q_M → Prop} (h : q_Ex X d 7 2 [some (.ref 10), some (.int 0), none, none] [] M (q_ri K)) : q_Ci X d 7 [.ref 10] M K := by
  show q_Ex X d 7 0 [some (.ref 10), none, none, none] [] M (q_ri K)
  refine q_iconst (pc := 0) (v := 0) k7_0 (by decide) ?_
  refine q_istore_n (pc := 1) [some (.ref 10), some (.int 0), none, none] k7_1 rfl (by decide) rfl ?_
  exact h
set_option maxRecDepth 20000 in
theorem vc7_p2 {X : Nat × (Nat → Int32)} {d : Nat} (hd : 0 < d) {M : q_M} {a1 : Int32} {K : Int32 → q_M → Prop} (h : (((M 11 4) ≤ a1) → (K (-1) M)) ∧ ((¬ (M 11 4) ≤ a1) → (q_Ci X (d - 1) 25 [.ref 11, .int a1] M (fun r3 M2 => q_Ex X d 7 24 [some (.ref 10), some (.int a1), some (.int r3), some (.int 0)] [] M2 (q_ri K))))) : q_Ex X d 7 2 [some (.ref 10), some (.int a1), none, none] [] M (q_ri K) := by
  refine q_iload_n (pc := 2) k7_2 rfl ?_
  refine q_aload_n (pc := 3) k7_3 rfl ?_
  refine q_getR (pc := 4) k7_4 fg7_12 rfl rfl ?_
  refine q_getIv (pc := 7) (v := M 11 4) k7_7 fg7_53 rfl rfl rfl ?_
  refine q_icmp_ge (pc := 10) 74 k7_10 (by decide) (fun g1 => ?_) (fun g1 => ?_)
  · replace h := h.1 g1
    refine q_iconst (pc := 74) (v := (-1)) k7_74 (by decide) ?_
    exact q_ireturn (pc := 75) k7_75 rfl ⟨_, rfl, h⟩
  · replace h := h.2 g1
    refine q_aload_n (pc := 13) k7_13 rfl ?_
    refine q_getR (pc := 14) k7_14 fg7_12 rfl rfl ?_
    refine q_iload_n (pc := 17) k7_17 rfl ?_
    refine q_invV (pc := 18) (As := [.int a1]) (st := []) k7_18 lm7_64 ov25 rfl rfl rfl (q_cat rfl) (Nat.le_of_ble_eq_true rfl) hd h ?_
    rintro v M2 ⟨r3, rfl, h⟩
    show q_Ex X d 7 (18 + 3) [some (.ref 10), some (.int a1), none, none] [.int r3] M2 _
    refine q_istore_n (pc := 21) [some (.ref 10), some (.int a1), some (.int r3), none] k7_21 rfl (by decide) rfl ?_
    refine q_iconst (pc := 22) (v := 0) k7_22 (by decide) ?_
    refine q_istore_n (pc := 23) [some (.ref 10), some (.int a1), some (.int r3), some (.int 0)] k7_23 rfl (by decide) rfl ?_
    exact h
set_option maxRecDepth 20000 in
theorem vc7_p24 {X : Nat × (Nat → Int32)} {d : Nat} (hd : 0 < d) {M : q_M} {a1 a2 a3 : Int32} {K : Int32 → q_M → Prop} (h : vp_in a1 3 ∧ ((((M 19 (Int32.toNatClampNeg a1)) ≤ a3) → (q_Ex X d 7 2 [some (.ref 10), some (.int (a1 + 1)), none, none] [] M (q_ri K))) ∧ ((¬ (M 19 (Int32.toNatClampNeg a1)) ≤ a3) → (vp_in a1 3 ∧ (vp_in a3 10 ∧ (q_Ci X (d - 1) 27 [.ref 11, .int a2, .int (M (21 + Int32.toNatClampNeg a1) (Int32.toNatClampNeg a3))] M (fun r4 M3 => ((0 ≤ r4) → (q_Ex X d 7 24 [some (.ref 10), some (.int a1), some (.int r4), some (.int (a3 + 1))] [] M3 (q_ri K))) ∧ ((¬ 0 ≤ r4) → (K (((20 : Int32) * a1) + a3) M3))))))))) : q_Ex X d 7 24 [some (.ref 10), some (.int a1), some (.int a2), some (.int a3)] [] M (q_ri K) := by
  refine q_iload_n (pc := 24) k7_24 rfl ?_
  refine q_aload_n (pc := 25) k7_25 rfl ?_
  refine q_getR (pc := 26) k7_26 fg7_26 rfl rfl ?_
  refine q_iload_n (pc := 29) k7_29 rfl ?_
  refine q_ialdv (pc := 30) (v := M 19 (Int32.toNatClampNeg a1)) k7_30 rfl h.1 rfl ?_
  replace h := h.2
  refine q_icmp_ge (pc := 31) 68 k7_31 (by decide) (fun g1 => ?_) (fun g1 => ?_)
  · replace h := h.1 g1
    refine q_iinc (pc := 68) (v := a1 + 1) [some (.ref 10), some (.int (a1 + 1)), some (.int a2), some (.int a3)] k7_68 rfl rfl rfl (by decide) rfl ?_
    refine q_goto (pc := 71) 2 k7_71 (by decide) ?_
    exact q_forget [some (.ref 10), some (.int (a1 + 1)), none, none] (q_subOk (And.intro rfl (And.intro rfl (trivial)))) h
  · replace h := h.2 g1
    refine q_aload_n (pc := 34) k7_34 rfl ?_
    refine q_getR (pc := 35) k7_35 fg7_12 rfl rfl ?_
    refine q_iload_n (pc := 38) k7_38 rfl ?_
    refine q_aload_n (pc := 39) k7_39 rfl ?_
    refine q_getR (pc := 40) k7_40 fg7_31 rfl rfl ?_
    refine q_iload_n (pc := 43) k7_43 rfl ?_
    have w2 := h.1
    replace h := h.2
    refine q_aald (pc := 44) k7_44 rfl w2 ?_
    refine q_iload_n (pc := 45) k7_45 rfl ?_
    refine q_ialdv (pc := 46) (v := M (21 + Int32.toNatClampNeg a1) (Int32.toNatClampNeg a3)) k7_46 (rw20 w2) h.1 rfl ?_
    replace h := h.2
    refine q_invV (pc := 47) (As := [.int a2, .int (M (21 + Int32.toNatClampNeg a1) (Int32.toNatClampNeg a3))]) (st := []) k7_47 lm7_67 ov27 rfl rfl rfl (q_cat rfl) (Nat.le_of_ble_eq_true rfl) hd h ?_
    rintro v M3 ⟨r4, rfl, h⟩
    show q_Ex X d 7 (47 + 3) [some (.ref 10), some (.int a1), some (.int a2), some (.int a3)] [.int r4] M3 _
    refine q_istore_n (pc := 50) [some (.ref 10), some (.int a1), some (.int r4), some (.int a3)] k7_50 rfl (by decide) rfl ?_
    refine q_iload_n (pc := 51) k7_51 rfl ?_
    refine q_if_ge (pc := 52) 62 k7_52 (by decide) (fun g5 => ?_) (fun g5 => ?_)
    · replace h := h.1 g5
      refine q_iinc (pc := 62) (v := a3 + 1) [some (.ref 10), some (.int a1), some (.int r4), some (.int (a3 + 1))] k7_62 rfl rfl rfl (by decide) rfl ?_
      refine q_goto (pc := 65) 24 k7_65 (by decide) ?_
      exact h
    · replace h := h.2 g5
      refine q_bipush (pc := 55) (v := 20) k7_55 (by decide) ?_
      refine q_iload_n (pc := 57) k7_57 rfl ?_
      refine q_imul (pc := 58) k7_58 ?_
      refine q_iload_n (pc := 59) k7_59 rfl ?_
      refine q_iadd (pc := 60) k7_60 ?_
      exact q_ireturn (pc := 61) k7_61 rfl ⟨_, rfl, h⟩
set_option maxRecDepth 20000 in
theorem vc8 {X : Nat × (Nat → Int32)} {d : Nat} (hd : 0 < d) {M : q_M} {a1 : Int32} {K : Int32 → q_M → Prop} (h : q_Ci X (d - 1) 25 [.ref 11, .int a1] M (fun r2 M1 => q_Ex X d 8 11 [some (.ref 10), some (.int a1), some (.int r2), some (.int 0)] [] M1 (q_ri K))) : q_Ci X d 8 [.ref 10, .int a1] M K := by
  show q_Ex X d 8 0 [some (.ref 10), some (.int a1), none, none] [] M (q_ri K)
  refine q_aload_n (pc := 0) k8_0 rfl ?_
  refine q_getR (pc := 1) k8_1 fg8_12 rfl rfl ?_
  refine q_iload_n (pc := 4) k8_4 rfl ?_
  refine q_invV (pc := 5) (As := [.int a1]) (st := []) k8_5 lm8_64 ov25 rfl rfl rfl (q_cat rfl) (Nat.le_of_ble_eq_true rfl) hd h ?_
  rintro v M1 ⟨r2, rfl, h⟩
  show q_Ex X d 8 (5 + 3) [some (.ref 10), some (.int a1), none, none] [.int r2] M1 _
  refine q_istore_n (pc := 8) [some (.ref 10), some (.int a1), some (.int r2), none] k8_8 rfl (by decide) rfl ?_
  refine q_iconst (pc := 9) (v := 0) k8_9 (by decide) ?_
  refine q_istore_n (pc := 10) [some (.ref 10), some (.int a1), some (.int r2), some (.int 0)] k8_10 rfl (by decide) rfl ?_
  exact h
set_option maxRecDepth 20000 in
theorem vc8_p11 {X : Nat × (Nat → Int32)} {d : Nat} (hd : 0 < d) {M : q_M} {a1 a2 a3 : Int32} {K : Int32 → q_M → Prop} (h : vp_in a1 3 ∧ ((((M 19 (Int32.toNatClampNeg a1)) ≤ a3) → (K a2 M)) ∧ ((¬ (M 19 (Int32.toNatClampNeg a1)) ≤ a3) → (vp_in a1 3 ∧ (vp_in a3 10 ∧ (q_Ci X (d - 1) 27 [.ref 11, .int a2, .int (M (21 + Int32.toNatClampNeg a1) (Int32.toNatClampNeg a3))] M (fun r4 M3 => q_Ex X d 8 11 [some (.ref 10), some (.int a1), some (.int r4), some (.int (a3 + 1))] [] M3 (q_ri K)))))))) : q_Ex X d 8 11 [some (.ref 10), some (.int a1), some (.int a2), some (.int a3)] [] M (q_ri K) := by
  refine q_iload_n (pc := 11) k8_11 rfl ?_
  refine q_aload_n (pc := 12) k8_12 rfl ?_
  refine q_getR (pc := 13) k8_13 fg8_26 rfl rfl ?_
  refine q_iload_n (pc := 16) k8_16 rfl ?_
  refine q_ialdv (pc := 17) (v := M 19 (Int32.toNatClampNeg a1)) k8_17 rfl h.1 rfl ?_
  replace h := h.2
  refine q_icmp_ge (pc := 18) 44 k8_18 (by decide) (fun g1 => ?_) (fun g1 => ?_)
  · replace h := h.1 g1
    refine q_iload_n (pc := 44) k8_44 rfl ?_
    exact q_ireturn (pc := 45) k8_45 rfl ⟨_, rfl, h⟩
  · replace h := h.2 g1
    refine q_aload_n (pc := 21) k8_21 rfl ?_
    refine q_getR (pc := 22) k8_22 fg8_12 rfl rfl ?_
    refine q_iload_n (pc := 25) k8_25 rfl ?_
    refine q_aload_n (pc := 26) k8_26 rfl ?_
    refine q_getR (pc := 27) k8_27 fg8_31 rfl rfl ?_
    refine q_iload_n (pc := 30) k8_30 rfl ?_
    have w2 := h.1
    replace h := h.2
    refine q_aald (pc := 31) k8_31 rfl w2 ?_
    refine q_iload_n (pc := 32) k8_32 rfl ?_
    refine q_ialdv (pc := 33) (v := M (21 + Int32.toNatClampNeg a1) (Int32.toNatClampNeg a3)) k8_33 (rw20 w2) h.1 rfl ?_
    replace h := h.2
    refine q_invV (pc := 34) (As := [.int a2, .int (M (21 + Int32.toNatClampNeg a1) (Int32.toNatClampNeg a3))]) (st := []) k8_34 lm8_67 ov27 rfl rfl rfl (q_cat rfl) (Nat.le_of_ble_eq_true rfl) hd h ?_
    rintro v M3 ⟨r4, rfl, h⟩
    show q_Ex X d 8 (34 + 3) [some (.ref 10), some (.int a1), some (.int a2), some (.int a3)] [.int r4] M3 _
    refine q_istore_n (pc := 37) [some (.ref 10), some (.int a1), some (.int r4), some (.int a3)] k8_37 rfl (by decide) rfl ?_
    refine q_iinc (pc := 38) (v := a3 + 1) [some (.ref 10), some (.int a1), some (.int r4), some (.int (a3 + 1))] k8_38 rfl rfl rfl (by decide) rfl ?_
    refine q_goto (pc := 41) 11 k8_41 (by decide) ?_
    exact h
set_option maxRecDepth 20000 in
theorem vc9 {X : Nat × (Nat → Int32)} {d : Nat} (hd : 0 < d) {M : q_M} {a1 : Int32} {K : Int32 → q_M → Prop} (h : q_Ci X (d - 1) 25 [.ref 11, .int a1] M (fun r2 M1 => q_Ex X d 9 16 [some (.ref 10), some (.int a1), some (.int r2), some (.int ((1 : Int32) <<< (r2 &&& 31))), some (.int 0)] [] M1 (q_ri K))) : q_Ci X d 9 [.ref 10, .int a1] M K := by
  show q_Ex X d 9 0 [some (.ref 10), some (.int a1), none, none, none] [] M (q_ri K)
  refine q_aload_n (pc := 0) k9_0 rfl ?_
  refine q_getR (pc := 1) k9_1 fg9_12 rfl rfl ?_
  refine q_iload_n (pc := 4) k9_4 rfl ?_
  refine q_invV (pc := 5) (As := [.int a1]) (st := []) k9_5 lm9_64 ov25 rfl rfl rfl (q_cat rfl) (Nat.le_of_ble_eq_true rfl) hd h ?_
  rintro v M1 ⟨r2, rfl, h⟩
  show q_Ex X d 9 (5 + 3) [some (.ref 10), some (.int a1), none, none, none] [.int r2] M1 _
  refine q_istore_n (pc := 8) [some (.ref 10), some (.int a1), some (.int r2), none, none] k9_8 rfl (by decide) rfl ?_
  refine q_iconst (pc := 9) (v := 1) k9_9 (by decide) ?_
  refine q_iload_n (pc := 10) k9_10 rfl ?_
  refine q_ishl (pc := 11) k9_11 ?_
  refine q_istore_n (pc := 12) [some (.ref 10), some (.int a1), some (.int r2), some (.int ((1 : Int32) <<< (r2 &&& 31))), none] k9_12 rfl (by decide) rfl ?_
  refine q_iconst (pc := 13) (v := 0) k9_13 (by decide) ?_
  refine q_istore (pc := 14) [some (.ref 10), some (.int a1), some (.int r2), some (.int ((1 : Int32) <<< (r2 &&& 31))), some (.int 0)] k9_14 rfl (by decide) rfl ?_
  exact h
set_option maxRecDepth 20000 in
theorem vc9_p16 {X : Nat × (Nat → Int32)} {d : Nat} (hd : 0 < d) {M : q_M} {a1 a2 a3 a4 : Int32} {K : Int32 → q_M → Prop} (h : vp_in a1 3 ∧ ((((M 19 (Int32.toNatClampNeg a1)) ≤ a4) → (K a3 M)) ∧ ((¬ (M 19 (Int32.toNatClampNeg a1)) ≤ a4) → (((a2 < 0) → (K a3 M)) ∧ ((¬ a2 < 0) → (vp_in a1 3 ∧ (vp_in a4 10 ∧ (q_Ci X (d - 1) 27 [.ref 11, .int a2, .int (M (21 + Int32.toNatClampNeg a1) (Int32.toNatClampNeg a4))] M (fun r5 M4 => ((r5 < 0) → (q_Ex X d 9 16 [some (.ref 10), some (.int a1), some (.int r5), some (.int a3), some (.int (a4 + 1))] [] M4 (q_ri K))) ∧ ((¬ r5 < 0) → (q_Ex X d 9 16 [some (.ref 10), some (.int a1), some (.int r5), some (.int (a3 ||| ((1 : Int32) <<< (r5 &&& 31)))), some (.int (a4 + 1))] [] M4 (q_ri K)))))))))))) : q_Ex X d 9 16 [some (.ref 10), some (.int a1), some (.int a2), some (.int a3), some (.int a4)] [] M (q_ri K) := by
  refine q_iload (pc := 16) k9_16 rfl ?_
  refine q_aload_n (pc := 18) k9_18 rfl ?_
  refine q_getR (pc := 19) k9_19 fg9_26 rfl rfl ?_
  refine q_iload_n (pc := 22) k9_22 rfl ?_
  refine q_ialdv (pc := 23) (v := M 19 (Int32.toNatClampNeg a1)) k9_23 rfl h.1 rfl ?_
  replace h := h.2
  refine q_icmp_ge (pc := 24) 65 k9_24 (by decide) (fun g1 => ?_) (fun g1 => ?_)
  · replace h := h.1 g1
    refine q_iload_n (pc := 65) k9_65 rfl ?_
    exact q_ireturn (pc := 66) k9_66 rfl ⟨_, rfl, h⟩
  · replace h := h.2 g1
    refine q_iload_n (pc := 27) k9_27 rfl ?_
    refine q_if_lt (pc := 28) 65 k9_28 (by decide) (fun g2 => ?_) (fun g2 => ?_)
    · replace h := h.1 g2
      refine q_iload_n (pc := 65) k9_65 rfl ?_
      exact q_ireturn (pc := 66) k9_66 rfl ⟨_, rfl, h⟩
    · replace h := h.2 g2
      refine q_aload_n (pc := 31) k9_31 rfl ?_
      refine q_getR (pc := 32) k9_32 fg9_12 rfl rfl ?_
      refine q_iload_n (pc := 35) k9_35 rfl ?_
      refine q_aload_n (pc := 36) k9_36 rfl ?_
      refine q_getR (pc := 37) k9_37 fg9_31 rfl rfl ?_
      refine q_iload_n (pc := 40) k9_40 rfl ?_
      have w3 := h.1
      replace h := h.2
      refine q_aald (pc := 41) k9_41 rfl w3 ?_
      refine q_iload (pc := 42) k9_42 rfl ?_
      refine q_ialdv (pc := 44) (v := M (21 + Int32.toNatClampNeg a1) (Int32.toNatClampNeg a4)) k9_44 (rw20 w3) h.1 rfl ?_
      replace h := h.2
      refine q_invV (pc := 45) (As := [.int a2, .int (M (21 + Int32.toNatClampNeg a1) (Int32.toNatClampNeg a4))]) (st := []) k9_45 lm9_67 ov27 rfl rfl rfl (q_cat rfl) (Nat.le_of_ble_eq_true rfl) hd h ?_
      rintro v M4 ⟨r5, rfl, h⟩
      show q_Ex X d 9 (45 + 3) [some (.ref 10), some (.int a1), some (.int a2), some (.int a3), some (.int a4)] [.int r5] M4 _
      refine q_istore_n (pc := 48) [some (.ref 10), some (.int a1), some (.int r5), some (.int a3), some (.int a4)] k9_48 rfl (by decide) rfl ?_
      refine q_iload_n (pc := 49) k9_49 rfl ?_
      refine q_if_lt (pc := 50) 59 k9_50 (by decide) (fun g6 => ?_) (fun g6 => ?_)
      · replace h := h.1 g6
        refine q_iinc (pc := 59) (v := a4 + 1) [some (.ref 10), some (.int a1), some (.int r5), some (.int a3), some (.int (a4 + 1))] k9_59 rfl rfl rfl (by decide) rfl ?_
        refine q_goto (pc := 62) 16 k9_62 (by decide) ?_
        exact h
      · replace h := h.2 g6
        refine q_iload_n (pc := 53) k9_53 rfl ?_
        refine q_iconst (pc := 54) (v := 1) k9_54 (by decide) ?_
        refine q_iload_n (pc := 55) k9_55 rfl ?_
        refine q_ishl (pc := 56) k9_56 ?_
        refine q_ior (pc := 57) k9_57 ?_
        refine q_istore_n (pc := 58) [some (.ref 10), some (.int a1), some (.int r5), some (.int (a3 ||| ((1 : Int32) <<< (r5 &&& 31)))), some (.int a4)] k9_58 rfl (by decide) rfl ?_
        refine q_iinc (pc := 59) (v := a4 + 1) [some (.ref 10), some (.int a1), some (.int r5), some (.int (a3 ||| ((1 : Int32) <<< (r5 &&& 31)))), some (.int (a4 + 1))] k9_59 rfl rfl rfl (by decide) rfl ?_
        refine q_goto (pc := 62) 16 k9_62 (by decide) ?_
        exact h
set_option maxRecDepth 20000 in
theorem vc10 {X : Nat × (Nat → Int32)} {d : Nat} {M : q_M} {K : Int32 → q_M → Prop} (h : q_Ex X d 10 6 [some (.ref 10), some (.int 0), some (.int 0), some (.int 0), none] [] M (q_ri K)) : q_Ci X d 10 [.ref 10] M K := by
  show q_Ex X d 10 0 [some (.ref 10), none, none, none, none] [] M (q_ri K)
  refine q_iconst (pc := 0) (v := 0) k10_0 (by decide) ?_
  refine q_istore_n (pc := 1) [some (.ref 10), some (.int 0), none, none, none] k10_1 rfl (by decide) rfl ?_
  refine q_iconst (pc := 2) (v := 0) k10_2 (by decide) ?_
  refine q_istore_n (pc := 3) [some (.ref 10), some (.int 0), some (.int 0), none, none] k10_3 rfl (by decide) rfl ?_
  refine q_iconst (pc := 4) (v := 0) k10_4 (by decide) ?_
  refine q_istore_n (pc := 5) [some (.ref 10), some (.int 0), some (.int 0), some (.int 0), none] k10_5 rfl (by decide) rfl ?_
  exact h
set_option maxRecDepth 20000 in
theorem vc10_p6 {X : Nat × (Nat → Int32)} {d : Nat} (hd : 0 < d) {M : q_M} {a1 a2 a3 : Int32} {K : Int32 → q_M → Prop} (h : (((M 11 4) ≤ a3) → (q_Ex X d 10 44 [some (.ref 10), none, some (.int a2), some (.int 0), none] [] M (q_ri K))) ∧ ((¬ (M 11 4) ≤ a3) → (q_Ci X (d - 1) 9 [.ref 10, .int a3] M (fun r3 M2 => q_Ex X d 10 6 [some (.ref 10), some (.int (a1 ||| r3)), some (.int (a2 ||| (a1 &&& r3))), some (.int (a3 + 1)), none] [] M2 (q_ri K))))) : q_Ex X d 10 6 [some (.ref 10), some (.int a1), some (.int a2), some (.int a3), none] [] M (q_ri K) := by
  refine q_iload_n (pc := 6) k10_6 rfl ?_
  refine q_aload_n (pc := 7) k10_7 rfl ?_
  refine q_getR (pc := 8) k10_8 fg10_12 rfl rfl ?_
  refine q_getIv (pc := 11) (v := M 11 4) k10_11 fg10_53 rfl rfl rfl ?_
  refine q_icmp_ge (pc := 14) 42 k10_14 (by decide) (fun g1 => ?_) (fun g1 => ?_)
  · replace h := h.1 g1
    refine q_iconst (pc := 42) (v := 0) k10_42 (by decide) ?_
    refine q_istore_n (pc := 43) [some (.ref 10), some (.int a1), some (.int a2), some (.int 0), none] k10_43 rfl (by decide) rfl ?_
    exact q_forget [some (.ref 10), none, some (.int a2), some (.int 0), none] (q_subOk (And.intro rfl (And.intro rfl (And.intro rfl (trivial))))) h
  · replace h := h.2 g1
    refine q_aload_n (pc := 17) k10_17 rfl ?_
    refine q_iload_n (pc := 18) k10_18 rfl ?_
    refine q_invV (pc := 19) (As := [.int a3]) (st := []) k10_19 lm10_71 ov9 rfl rfl rfl (q_cat rfl) (Nat.le_of_ble_eq_true rfl) hd h ?_
    rintro v M2 ⟨r3, rfl, h⟩
    show q_Ex X d 10 (19 + 3) [some (.ref 10), some (.int a1), some (.int a2), some (.int a3), none] [.int r3] M2 _
    refine q_istore (pc := 22) [some (.ref 10), some (.int a1), some (.int a2), some (.int a3), some (.int r3)] k10_22 rfl (by decide) rfl ?_
    refine q_iload_n (pc := 24) k10_24 rfl ?_
    refine q_iload_n (pc := 25) k10_25 rfl ?_
    refine q_iload (pc := 26) k10_26 rfl ?_
    refine q_iand (pc := 28) k10_28 ?_
    refine q_ior (pc := 29) k10_29 ?_
    refine q_istore_n (pc := 30) [some (.ref 10), some (.int a1), some (.int (a2 ||| (a1 &&& r3))), some (.int a3), some (.int r3)] k10_30 rfl (by decide) rfl ?_
    refine q_iload_n (pc := 31) k10_31 rfl ?_
    refine q_iload (pc := 32) k10_32 rfl ?_
    refine q_ior (pc := 34) k10_34 ?_
    refine q_istore_n (pc := 35) [some (.ref 10), some (.int (a1 ||| r3)), some (.int (a2 ||| (a1 &&& r3))), some (.int a3), some (.int r3)] k10_35 rfl (by decide) rfl ?_
    refine q_iinc (pc := 36) (v := a3 + 1) [some (.ref 10), some (.int (a1 ||| r3)), some (.int (a2 ||| (a1 &&& r3))), some (.int (a3 + 1)), some (.int r3)] k10_36 rfl rfl rfl (by decide) rfl ?_
    refine q_goto (pc := 39) 6 k10_39 (by decide) ?_
    exact q_forget [some (.ref 10), some (.int (a1 ||| r3)), some (.int (a2 ||| (a1 &&& r3))), some (.int (a3 + 1)), none] (q_subOk (And.intro rfl (And.intro rfl (And.intro rfl (And.intro rfl (trivial)))))) h
set_option maxRecDepth 20000 in
theorem vc10_p44 {X : Nat × (Nat → Int32)} {d : Nat} (hd : 0 < d) {M : q_M} {a2 a3 : Int32} {K : Int32 → q_M → Prop} (h : (((M 11 2) ≤ a3) → (K (-9) M)) ∧ ((¬ (M 11 2) ≤ a3) → (q_Ci X (d - 1) 90 [.int a2, .int a3] M (fun r3 M2 => ((r3 = 0) → (q_Ex X d 10 44 [some (.ref 10), none, some (.int a2), some (.int (a3 + 1)), none] [] M2 (q_ri K))) ∧ ((¬ r3 = 0) → (K a3 M2)))))) : q_Ex X d 10 44 [some (.ref 10), none, some (.int a2), some (.int a3), none] [] M (q_ri K) := by
  refine q_iload_n (pc := 44) k10_44 rfl ?_
  refine q_aload_n (pc := 45) k10_45 rfl ?_
  refine q_getR (pc := 46) k10_46 fg10_12 rfl rfl ?_
  refine q_getIv (pc := 49) (v := M 11 2) k10_49 fg10_74 rfl rfl rfl ?_
  refine q_icmp_ge (pc := 52) 71 k10_52 (by decide) (fun g1 => ?_) (fun g1 => ?_)
  · replace h := h.1 g1
    refine q_bipush (pc := 71) (v := (-9)) k10_71 (by decide) ?_
    exact q_ireturn (pc := 73) k10_73 rfl ⟨_, rfl, h⟩
  · replace h := h.2 g1
    refine q_iload_n (pc := 55) k10_55 rfl ?_
    refine q_iload_n (pc := 56) k10_56 rfl ?_
    refine q_invSN (pc := 57) (As := [.int a2, .int a3]) (st := []) k10_57 lm10_77 os90 rfl rfl (q_cat rfl) (Nat.le_of_ble_eq_true rfl) hd h ?_
    rintro v M2 ⟨r3, rfl, h⟩
    show q_Ex X d 10 (57 + 3) [some (.ref 10), none, some (.int a2), some (.int a3), none] [.int r3] M2 _
    refine q_if_eq (pc := 60) 65 k10_60 (by decide) (fun g4 => ?_) (fun g4 => ?_)
    · replace h := h.1 g4
      refine q_iinc (pc := 65) (v := a3 + 1) [some (.ref 10), none, some (.int a2), some (.int (a3 + 1)), none] k10_65 rfl rfl rfl (by decide) rfl ?_
      refine q_goto (pc := 68) 44 k10_68 (by decide) ?_
      exact h
    · replace h := h.2 g4
      refine q_iload_n (pc := 63) k10_63 rfl ?_
      exact q_ireturn (pc := 64) k10_64 rfl ⟨_, rfl, h⟩
set_option maxRecDepth 20000 in
theorem vc11_39 {X : Nat × (Nat → Int32)} {d : Nat} {M : q_M} {a1 a2 a3 : Int32} {K : Int32 → q_M → Prop} (h : q_Ex X d 11 3 [some (.ref 39), some (.int a1), some (.int a2), some (.int a3), some (.int 0)] [] M (q_ri K)) : q_Ci X d 11 [.ref 39, .int a1, .int a2, .int a3] M K := by
  show q_Ex X d 11 0 [some (.ref 39), some (.int a1), some (.int a2), some (.int a3), none] [] M (q_ri K)
  refine q_iconst (pc := 0) (v := 0) k11_0 (by decide) ?_
  refine q_istore (pc := 1) [some (.ref 39), some (.int a1), some (.int a2), some (.int a3), some (.int 0)] k11_1 rfl (by decide) rfl ?_
  exact h
set_option maxRecDepth 20000 in
theorem vc11_39_p3 {X : Nat × (Nat → Int32)} {d : Nat} (hd : 0 < d) {M : q_M} {a1 a2 a3 a4 : Int32} {K : Int32 → q_M → Prop} (h : ((a2 ≤ a4) → (K 1 M)) ∧ ((¬ a2 ≤ a4) → (q_Ci X (d - 1) 14 [.ref 39, .int a4, .int a2, .int a3] M (fun r3 M2 => q_Ci X (d - 1) 89 [.int a1, .int a4] M2 (fun r5 M4 => ((¬ ((r3 >>> (r5 &&& 31)) &&& 1) = 0) → (q_Ex X d 11 3 [some (.ref 39), some (.int a1), some (.int a2), some (.int a3), some (.int (a4 + 1))] [] M4 (q_ri K))) ∧ ((((r3 >>> (r5 &&& 31)) &&& 1) = 0) → (K 0 M4))))))) : q_Ex X d 11 3 [some (.ref 39), some (.int a1), some (.int a2), some (.int a3), some (.int a4)] [] M (q_ri K) := by
  refine q_iload (pc := 3) k11_3 rfl ?_
  refine q_iload_n (pc := 5) k11_5 rfl ?_
  refine q_icmp_ge (pc := 6) 37 k11_6 (by decide) (fun g1 => ?_) (fun g1 => ?_)
  · replace h := h.1 g1
    refine q_iconst (pc := 37) (v := 1) k11_37 (by decide) ?_
    exact q_zreturn (pc := 38) k11_38 rfl (by decide) ⟨_, rfl, h⟩
  · replace h := h.2 g1
    refine q_aload_n (pc := 9) k11_9 rfl ?_
    refine q_iload (pc := 10) k11_10 rfl ?_
    refine q_iload_n (pc := 12) k11_12 rfl ?_
    refine q_iload_n (pc := 13) k11_13 rfl ?_
    refine q_invU (pc := 14) (As := [.int a4, .int a2, .int a3]) (st := []) k11_14 ou11_7_4 rfl rfl rfl (q_cat rfl) (Nat.le_of_ble_eq_true rfl) hd h ?_
    rintro v M2 ⟨r3, rfl, h⟩
    show q_Ex X d 11 (14 + 3) [some (.ref 39), some (.int a1), some (.int a2), some (.int a3), some (.int a4)] [.int r3] M2 _
    refine q_iload_n (pc := 17) k11_17 rfl ?_
    refine q_iload (pc := 18) k11_18 rfl ?_
    refine q_invSN (pc := 20) (As := [.int a1, .int a4]) (st := [.int r3]) k11_20 lm11_13 os89 rfl rfl (q_cat rfl) (Nat.le_of_ble_eq_true rfl) hd h ?_
    rintro v M4 ⟨r5, rfl, h⟩
    show q_Ex X d 11 (20 + 3) [some (.ref 39), some (.int a1), some (.int a2), some (.int a3), some (.int a4)] [.int r5, .int r3] M4 _
    refine q_ishr (pc := 23) k11_23 ?_
    refine q_iconst (pc := 24) (v := 1) k11_24 (by decide) ?_
    refine q_iand (pc := 25) k11_25 ?_
    refine q_if_ne (pc := 26) 31 k11_26 (by decide) (fun g6 => ?_) (fun g6 => ?_)
    · replace h := h.1 g6
      refine q_iinc (pc := 31) (v := a4 + 1) [some (.ref 39), some (.int a1), some (.int a2), some (.int a3), some (.int (a4 + 1))] k11_31 rfl rfl rfl (by decide) rfl ?_
      refine q_goto (pc := 34) 3 k11_34 (by decide) ?_
      exact h
    · replace h := h.2 g6
      refine q_iconst (pc := 29) (v := 0) k11_29 (by decide) ?_
      exact q_zreturn (pc := 30) k11_30 rfl (by decide) ⟨_, rfl, h⟩
set_option maxRecDepth 20000 in
theorem vc11_40 {X : Nat × (Nat → Int32)} {d : Nat} {M : q_M} {a1 a2 a3 : Int32} {K : Int32 → q_M → Prop} (h : q_Ex X d 11 3 [some (.ref 40), some (.int a1), some (.int a2), some (.int a3), some (.int 0)] [] M (q_ri K)) : q_Ci X d 11 [.ref 40, .int a1, .int a2, .int a3] M K := by
  show q_Ex X d 11 0 [some (.ref 40), some (.int a1), some (.int a2), some (.int a3), none] [] M (q_ri K)
  refine q_iconst (pc := 0) (v := 0) k11_0 (by decide) ?_
  refine q_istore (pc := 1) [some (.ref 40), some (.int a1), some (.int a2), some (.int a3), some (.int 0)] k11_1 rfl (by decide) rfl ?_
  exact h
set_option maxRecDepth 20000 in
theorem vc11_40_p3 {X : Nat × (Nat → Int32)} {d : Nat} (hd : 0 < d) {M : q_M} {a1 a2 a3 a4 : Int32} {K : Int32 → q_M → Prop} (h : ((a2 ≤ a4) → (K 1 M)) ∧ ((¬ a2 ≤ a4) → (q_Ci X (d - 1) 14 [.ref 40, .int a4, .int a2, .int a3] M (fun r3 M2 => q_Ci X (d - 1) 89 [.int a1, .int a4] M2 (fun r5 M4 => ((¬ ((r3 >>> (r5 &&& 31)) &&& 1) = 0) → (q_Ex X d 11 3 [some (.ref 40), some (.int a1), some (.int a2), some (.int a3), some (.int (a4 + 1))] [] M4 (q_ri K))) ∧ ((((r3 >>> (r5 &&& 31)) &&& 1) = 0) → (K 0 M4))))))) : q_Ex X d 11 3 [some (.ref 40), some (.int a1), some (.int a2), some (.int a3), some (.int a4)] [] M (q_ri K) := by
  refine q_iload (pc := 3) k11_3 rfl ?_
  refine q_iload_n (pc := 5) k11_5 rfl ?_
  refine q_icmp_ge (pc := 6) 37 k11_6 (by decide) (fun g1 => ?_) (fun g1 => ?_)
  · replace h := h.1 g1
    refine q_iconst (pc := 37) (v := 1) k11_37 (by decide) ?_
    exact q_zreturn (pc := 38) k11_38 rfl (by decide) ⟨_, rfl, h⟩
  · replace h := h.2 g1
    refine q_aload_n (pc := 9) k11_9 rfl ?_
    refine q_iload (pc := 10) k11_10 rfl ?_
    refine q_iload_n (pc := 12) k11_12 rfl ?_
    refine q_iload_n (pc := 13) k11_13 rfl ?_
    refine q_invU (pc := 14) (As := [.int a4, .int a2, .int a3]) (st := []) k11_14 ou11_7_8 rfl rfl rfl (q_cat rfl) (Nat.le_of_ble_eq_true rfl) hd h ?_
    rintro v M2 ⟨r3, rfl, h⟩
    show q_Ex X d 11 (14 + 3) [some (.ref 40), some (.int a1), some (.int a2), some (.int a3), some (.int a4)] [.int r3] M2 _
    refine q_iload_n (pc := 17) k11_17 rfl ?_
    refine q_iload (pc := 18) k11_18 rfl ?_
    refine q_invSN (pc := 20) (As := [.int a1, .int a4]) (st := [.int r3]) k11_20 lm11_13 os89 rfl rfl (q_cat rfl) (Nat.le_of_ble_eq_true rfl) hd h ?_
    rintro v M4 ⟨r5, rfl, h⟩
    show q_Ex X d 11 (20 + 3) [some (.ref 40), some (.int a1), some (.int a2), some (.int a3), some (.int a4)] [.int r5, .int r3] M4 _
    refine q_ishr (pc := 23) k11_23 ?_
    refine q_iconst (pc := 24) (v := 1) k11_24 (by decide) ?_
    refine q_iand (pc := 25) k11_25 ?_
    refine q_if_ne (pc := 26) 31 k11_26 (by decide) (fun g6 => ?_) (fun g6 => ?_)
    · replace h := h.1 g6
      refine q_iinc (pc := 31) (v := a4 + 1) [some (.ref 40), some (.int a1), some (.int a2), some (.int a3), some (.int (a4 + 1))] k11_31 rfl rfl rfl (by decide) rfl ?_
      refine q_goto (pc := 34) 3 k11_34 (by decide) ?_
      exact h
    · replace h := h.2 g6
      refine q_iconst (pc := 29) (v := 0) k11_29 (by decide) ?_
      exact q_zreturn (pc := 30) k11_30 rfl (by decide) ⟨_, rfl, h⟩
set_option maxRecDepth 20000 in
theorem vc11_41 {X : Nat × (Nat → Int32)} {d : Nat} {M : q_M} {a1 a2 a3 : Int32} {K : Int32 → q_M → Prop} (h : q_Ex X d 11 3 [some (.ref 41), some (.int a1), some (.int a2), some (.int a3), some (.int 0)] [] M (q_ri K)) : q_Ci X d 11 [.ref 41, .int a1, .int a2, .int a3] M K := by
  show q_Ex X d 11 0 [some (.ref 41), some (.int a1), some (.int a2), some (.int a3), none] [] M (q_ri K)
  refine q_iconst (pc := 0) (v := 0) k11_0 (by decide) ?_
  refine q_istore (pc := 1) [some (.ref 41), some (.int a1), some (.int a2), some (.int a3), some (.int 0)] k11_1 rfl (by decide) rfl ?_
  exact h
set_option maxRecDepth 20000 in
theorem vc11_41_p3 {X : Nat × (Nat → Int32)} {d : Nat} (hd : 0 < d) {M : q_M} {a1 a2 a3 a4 : Int32} {K : Int32 → q_M → Prop} (h : ((a2 ≤ a4) → (K 1 M)) ∧ ((¬ a2 ≤ a4) → (q_Ci X (d - 1) 14 [.ref 41, .int a4, .int a2, .int a3] M (fun r3 M2 => q_Ci X (d - 1) 89 [.int a1, .int a4] M2 (fun r5 M4 => ((¬ ((r3 >>> (r5 &&& 31)) &&& 1) = 0) → (q_Ex X d 11 3 [some (.ref 41), some (.int a1), some (.int a2), some (.int a3), some (.int (a4 + 1))] [] M4 (q_ri K))) ∧ ((((r3 >>> (r5 &&& 31)) &&& 1) = 0) → (K 0 M4))))))) : q_Ex X d 11 3 [some (.ref 41), some (.int a1), some (.int a2), some (.int a3), some (.int a4)] [] M (q_ri K) := by
  refine q_iload (pc := 3) k11_3 rfl ?_
  refine q_iload_n (pc := 5) k11_5 rfl ?_
  refine q_icmp_ge (pc := 6) 37 k11_6 (by decide) (fun g1 => ?_) (fun g1 => ?_)
  · replace h := h.1 g1
    refine q_iconst (pc := 37) (v := 1) k11_37 (by decide) ?_
    exact q_zreturn (pc := 38) k11_38 rfl (by decide) ⟨_, rfl, h⟩
  · replace h := h.2 g1
    refine q_aload_n (pc := 9) k11_9 rfl ?_
    refine q_iload (pc := 10) k11_10 rfl ?_
    refine q_iload_n (pc := 12) k11_12 rfl ?_
    refine q_iload_n (pc := 13) k11_13 rfl ?_
    refine q_invU (pc := 14) (As := [.int a4, .int a2, .int a3]) (st := []) k11_14 ou11_7_3 rfl rfl rfl (q_cat rfl) (Nat.le_of_ble_eq_true rfl) hd h ?_
    rintro v M2 ⟨r3, rfl, h⟩
    show q_Ex X d 11 (14 + 3) [some (.ref 41), some (.int a1), some (.int a2), some (.int a3), some (.int a4)] [.int r3] M2 _
    refine q_iload_n (pc := 17) k11_17 rfl ?_
    refine q_iload (pc := 18) k11_18 rfl ?_
    refine q_invSN (pc := 20) (As := [.int a1, .int a4]) (st := [.int r3]) k11_20 lm11_13 os89 rfl rfl (q_cat rfl) (Nat.le_of_ble_eq_true rfl) hd h ?_
    rintro v M4 ⟨r5, rfl, h⟩
    show q_Ex X d 11 (20 + 3) [some (.ref 41), some (.int a1), some (.int a2), some (.int a3), some (.int a4)] [.int r5, .int r3] M4 _
    refine q_ishr (pc := 23) k11_23 ?_
    refine q_iconst (pc := 24) (v := 1) k11_24 (by decide) ?_
    refine q_iand (pc := 25) k11_25 ?_
    refine q_if_ne (pc := 26) 31 k11_26 (by decide) (fun g6 => ?_) (fun g6 => ?_)
    · replace h := h.1 g6
      refine q_iinc (pc := 31) (v := a4 + 1) [some (.ref 41), some (.int a1), some (.int a2), some (.int a3), some (.int (a4 + 1))] k11_31 rfl rfl rfl (by decide) rfl ?_
      refine q_goto (pc := 34) 3 k11_34 (by decide) ?_
      exact h
    · replace h := h.2 g6
      refine q_iconst (pc := 29) (v := 0) k11_29 (by decide) ?_
      exact q_zreturn (pc := 30) k11_30 rfl (by decide) ⟨_, rfl, h⟩
set_option maxRecDepth 20000 in
theorem vc11_42 {X : Nat × (Nat → Int32)} {d : Nat} {M : q_M} {a1 a2 a3 : Int32} {K : Int32 → q_M → Prop} (h : q_Ex X d 11 3 [some (.ref 42), some (.int a1), some (.int a2), some (.int a3), some (.int 0)] [] M (q_ri K)) : q_Ci X d 11 [.ref 42, .int a1, .int a2, .int a3] M K := by
  show q_Ex X d 11 0 [some (.ref 42), some (.int a1), some (.int a2), some (.int a3), none] [] M (q_ri K)
  refine q_iconst (pc := 0) (v := 0) k11_0 (by decide) ?_
  refine q_istore (pc := 1) [some (.ref 42), some (.int a1), some (.int a2), some (.int a3), some (.int 0)] k11_1 rfl (by decide) rfl ?_
  exact h
set_option maxRecDepth 20000 in
theorem vc11_42_p3 {X : Nat × (Nat → Int32)} {d : Nat} (hd : 0 < d) {M : q_M} {a1 a2 a3 a4 : Int32} {K : Int32 → q_M → Prop} (h : ((a2 ≤ a4) → (K 1 M)) ∧ ((¬ a2 ≤ a4) → (q_Ci X (d - 1) 0 [.ref 42, .int a4, .int a2, .int a3] M (fun r3 M2 => q_Ci X (d - 1) 89 [.int a1, .int a4] M2 (fun r5 M4 => ((¬ ((r3 >>> (r5 &&& 31)) &&& 1) = 0) → (q_Ex X d 11 3 [some (.ref 42), some (.int a1), some (.int a2), some (.int a3), some (.int (a4 + 1))] [] M4 (q_ri K))) ∧ ((((r3 >>> (r5 &&& 31)) &&& 1) = 0) → (K 0 M4))))))) : q_Ex X d 11 3 [some (.ref 42), some (.int a1), some (.int a2), some (.int a3), some (.int a4)] [] M (q_ri K) := by
  refine q_iload (pc := 3) k11_3 rfl ?_
  refine q_iload_n (pc := 5) k11_5 rfl ?_
  refine q_icmp_ge (pc := 6) 37 k11_6 (by decide) (fun g1 => ?_) (fun g1 => ?_)
  · replace h := h.1 g1
    refine q_iconst (pc := 37) (v := 1) k11_37 (by decide) ?_
    exact q_zreturn (pc := 38) k11_38 rfl (by decide) ⟨_, rfl, h⟩
  · replace h := h.2 g1
    refine q_aload_n (pc := 9) k11_9 rfl ?_
    refine q_iload (pc := 10) k11_10 rfl ?_
    refine q_iload_n (pc := 12) k11_12 rfl ?_
    refine q_iload_n (pc := 13) k11_13 rfl ?_
    refine q_invU (pc := 14) (As := [.int a4, .int a2, .int a3]) (st := []) k11_14 ou11_7_0 rfl rfl rfl (q_cat rfl) (Nat.le_of_ble_eq_true rfl) hd h ?_
    rintro v M2 ⟨r3, rfl, h⟩
    show q_Ex X d 11 (14 + 3) [some (.ref 42), some (.int a1), some (.int a2), some (.int a3), some (.int a4)] [.int r3] M2 _
    refine q_iload_n (pc := 17) k11_17 rfl ?_
    refine q_iload (pc := 18) k11_18 rfl ?_
    refine q_invSN (pc := 20) (As := [.int a1, .int a4]) (st := [.int r3]) k11_20 lm11_13 os89 rfl rfl (q_cat rfl) (Nat.le_of_ble_eq_true rfl) hd h ?_
    rintro v M4 ⟨r5, rfl, h⟩
    show q_Ex X d 11 (20 + 3) [some (.ref 42), some (.int a1), some (.int a2), some (.int a3), some (.int a4)] [.int r5, .int r3] M4 _
    refine q_ishr (pc := 23) k11_23 ?_
    refine q_iconst (pc := 24) (v := 1) k11_24 (by decide) ?_
    refine q_iand (pc := 25) k11_25 ?_
    refine q_if_ne (pc := 26) 31 k11_26 (by decide) (fun g6 => ?_) (fun g6 => ?_)
    · replace h := h.1 g6
      refine q_iinc (pc := 31) (v := a4 + 1) [some (.ref 42), some (.int a1), some (.int a2), some (.int a3), some (.int (a4 + 1))] k11_31 rfl rfl rfl (by decide) rfl ?_
      refine q_goto (pc := 34) 3 k11_34 (by decide) ?_
      exact h
    · replace h := h.2 g6
      refine q_iconst (pc := 29) (v := 0) k11_29 (by decide) ?_
      exact q_zreturn (pc := 30) k11_30 rfl (by decide) ⟨_, rfl, h⟩
set_option maxRecDepth 20000 in
theorem vc11_43 {X : Nat × (Nat → Int32)} {d : Nat} {M : q_M} {a1 a2 a3 : Int32} {K : Int32 → q_M → Prop} (h : q_Ex X d 11 3 [some (.ref 43), some (.int a1), some (.int a2), some (.int a3), some (.int 0)] [] M (q_ri K)) : q_Ci X d 11 [.ref 43, .int a1, .int a2, .int a3] M K := by
  show q_Ex X d 11 0 [some (.ref 43), some (.int a1), some (.int a2), some (.int a3), none] [] M (q_ri K)
  refine q_iconst (pc := 0) (v := 0) k11_0 (by decide) ?_
  refine q_istore (pc := 1) [some (.ref 43), some (.int a1), some (.int a2), some (.int a3), some (.int 0)] k11_1 rfl (by decide) rfl ?_
  exact h
set_option maxRecDepth 20000 in
theorem vc11_43_p3 {X : Nat × (Nat → Int32)} {d : Nat} (hd : 0 < d) {M : q_M} {a1 a2 a3 a4 : Int32} {K : Int32 → q_M → Prop} (h : ((a2 ≤ a4) → (K 1 M)) ∧ ((¬ a2 ≤ a4) → (q_Ci X (d - 1) 14 [.ref 43, .int a4, .int a2, .int a3] M (fun r3 M2 => q_Ci X (d - 1) 89 [.int a1, .int a4] M2 (fun r5 M4 => ((¬ ((r3 >>> (r5 &&& 31)) &&& 1) = 0) → (q_Ex X d 11 3 [some (.ref 43), some (.int a1), some (.int a2), some (.int a3), some (.int (a4 + 1))] [] M4 (q_ri K))) ∧ ((((r3 >>> (r5 &&& 31)) &&& 1) = 0) → (K 0 M4))))))) : q_Ex X d 11 3 [some (.ref 43), some (.int a1), some (.int a2), some (.int a3), some (.int a4)] [] M (q_ri K) := by
  refine q_iload (pc := 3) k11_3 rfl ?_
  refine q_iload_n (pc := 5) k11_5 rfl ?_
  refine q_icmp_ge (pc := 6) 37 k11_6 (by decide) (fun g1 => ?_) (fun g1 => ?_)
  · replace h := h.1 g1
    refine q_iconst (pc := 37) (v := 1) k11_37 (by decide) ?_
    exact q_zreturn (pc := 38) k11_38 rfl (by decide) ⟨_, rfl, h⟩
  · replace h := h.2 g1
    refine q_aload_n (pc := 9) k11_9 rfl ?_
    refine q_iload (pc := 10) k11_10 rfl ?_
    refine q_iload_n (pc := 12) k11_12 rfl ?_
    refine q_iload_n (pc := 13) k11_13 rfl ?_
    refine q_invU (pc := 14) (As := [.int a4, .int a2, .int a3]) (st := []) k11_14 ou11_7_7 rfl rfl rfl (q_cat rfl) (Nat.le_of_ble_eq_true rfl) hd h ?_
    rintro v M2 ⟨r3, rfl, h⟩
    show q_Ex X d 11 (14 + 3) [some (.ref 43), some (.int a1), some (.int a2), some (.int a3), some (.int a4)] [.int r3] M2 _
    refine q_iload_n (pc := 17) k11_17 rfl ?_
    refine q_iload (pc := 18) k11_18 rfl ?_
    refine q_invSN (pc := 20) (As := [.int a1, .int a4]) (st := [.int r3]) k11_20 lm11_13 os89 rfl rfl (q_cat rfl) (Nat.le_of_ble_eq_true rfl) hd h ?_
    rintro v M4 ⟨r5, rfl, h⟩
    show q_Ex X d 11 (20 + 3) [some (.ref 43), some (.int a1), some (.int a2), some (.int a3), some (.int a4)] [.int r5, .int r3] M4 _
    refine q_ishr (pc := 23) k11_23 ?_
    refine q_iconst (pc := 24) (v := 1) k11_24 (by decide) ?_
    refine q_iand (pc := 25) k11_25 ?_
    refine q_if_ne (pc := 26) 31 k11_26 (by decide) (fun g6 => ?_) (fun g6 => ?_)
    · replace h := h.1 g6
      refine q_iinc (pc := 31) (v := a4 + 1) [some (.ref 43), some (.int a1), some (.int a2), some (.int a3), some (.int (a4 + 1))] k11_31 rfl rfl rfl (by decide) rfl ?_
      refine q_goto (pc := 34) 3 k11_34 (by decide) ?_
      exact h
    · replace h := h.2 g6
      refine q_iconst (pc := 29) (v := 0) k11_29 (by decide) ?_
      exact q_zreturn (pc := 30) k11_30 rfl (by decide) ⟨_, rfl, h⟩
set_option maxRecDepth 20000 in
theorem vc0 {X : Nat × (Nat → Int32)} {d : Nat} {M : q_M} {a1 a2 a3 : Int32} {K : Int32 → q_M → Prop} (h : K (((1 : Int32) <<< (a2 &&& 31)) - 1) M) : q_Ci X d 0 [.ref 42, .int a1, .int a2, .int a3] M K := by
  show q_Ex X d 0 0 [some (.ref 42), some (.int a1), some (.int a2), some (.int a3)] [] M (q_ri K)
  refine q_iconst (pc := 0) (v := 1) k0_0 (by decide) ?_
  refine q_iload_n (pc := 1) k0_1 rfl ?_
  refine q_ishl (pc := 2) k0_2 ?_
  refine q_iconst (pc := 3) (v := 1) k0_3 (by decide) ?_
  refine q_isub (pc := 4) k0_4 ?_
  exact q_ireturn (pc := 5) k0_5 rfl ⟨_, rfl, h⟩
set_option maxRecDepth 20000 in
theorem vc12 {X : Nat × (Nat → Int32)} {d : Nat} {M : q_M} {a1 a2 a3 : Int32} {K : Int32 → q_M → Prop} (h : ((a2 ≤ (a1 + 1)) → (K 0 M)) ∧ ((¬ a2 ≤ (a1 + 1)) → (K (a1 + 1) M))) : q_Ci X d 12 [.ref 41, .int a1, .int a2, .int a3] M K := by
  show q_Ex X d 12 0 [some (.ref 41), some (.int a1), some (.int a2), some (.int a3)] [] M (q_ri K)
  refine q_iload_n (pc := 0) k12_0 rfl ?_
  refine q_iconst (pc := 1) (v := 1) k12_1 (by decide) ?_
  refine q_iadd (pc := 2) k12_2 ?_
  refine q_iload_n (pc := 3) k12_3 rfl ?_
  refine q_icmp_ge (pc := 4) 13 k12_4 (by decide) (fun g1 => ?_) (fun g1 => ?_)
  · replace h := h.1 g1
    refine q_iconst (pc := 13) (v := 0) k12_13 (by decide) ?_
    exact q_ireturn (pc := 14) k12_14 rfl ⟨_, rfl, h⟩
  · replace h := h.2 g1
    refine q_iload_n (pc := 7) k12_7 rfl ?_
    refine q_iconst (pc := 8) (v := 1) k12_8 (by decide) ?_
    refine q_iadd (pc := 9) k12_9 ?_
    refine q_goto (pc := 10) 14 k12_10 (by decide) ?_
    exact q_ireturn (pc := 14) k12_14 rfl ⟨_, rfl, h⟩
set_option maxRecDepth 20000 in
theorem vc13 {X : Nat × (Nat → Int32)} {d : Nat} {M : q_M} {a1 a2 a3 : Int32} {K : Int32 → q_M → Prop} (h : K a1 M) : q_Ci X d 13 [.ref 39, .int a1, .int a2, .int a3] M K := by
  show q_Ex X d 13 0 [some (.ref 39), some (.int a1), some (.int a2), some (.int a3)] [] M (q_ri K)
  refine q_iload_n (pc := 0) k13_0 rfl ?_
  exact q_ireturn (pc := 1) k13_1 rfl ⟨_, rfl, h⟩
set_option maxRecDepth 20000 in
theorem vc39 {X : Nat × (Nat → Int32)} {d : Nat} (hd : 0 < d) {M : q_M} {a1 a2 a3 : Int32} {K : Int32 → q_M → Prop} (h : q_Ci X (d - 1) 89 [.int a3, .int a1] M (fun r2 M1 => K r2 M1)) : q_Ci X d 39 [.ref 43, .int a1, .int a2, .int a3] M K := by
  show q_Ex X d 39 0 [some (.ref 43), some (.int a1), some (.int a2), some (.int a3)] [] M (q_ri K)
  refine q_iload_n (pc := 0) k39_0 rfl ?_
  refine q_iload_n (pc := 1) k39_1 rfl ?_
  refine q_invSN (pc := 2) (As := [.int a3, .int a1]) (st := []) k39_2 lm39_7 os89 rfl rfl (q_cat rfl) (Nat.le_of_ble_eq_true rfl) hd h ?_
  rintro v M1 ⟨r2, rfl, h⟩
  show q_Ex X d 39 (2 + 3) [some (.ref 43), some (.int a1), some (.int a2), some (.int a3)] [.int r2] M1 _
  exact q_ireturn (pc := 5) k39_5 rfl ⟨_, rfl, h⟩
set_option maxRecDepth 20000 in
theorem vc40 {X : Nat × (Nat → Int32)} {d : Nat} {M : q_M} {a1 a2 a3 : Int32} {K : Int32 → q_M → Prop} (h : K ((a2 - 1) - a1) M) : q_Ci X d 40 [.ref 40, .int a1, .int a2, .int a3] M K := by
  show q_Ex X d 40 0 [some (.ref 40), some (.int a1), some (.int a2), some (.int a3)] [] M (q_ri K)
  refine q_iload_n (pc := 0) k40_0 rfl ?_
  refine q_iconst (pc := 1) (v := 1) k40_1 (by decide) ?_
  refine q_isub (pc := 2) k40_2 ?_
  refine q_iload_n (pc := 3) k40_3 rfl ?_
  refine q_isub (pc := 4) k40_4 ?_
  exact q_ireturn (pc := 5) k40_5 rfl ⟨_, rfl, h⟩
set_option maxRecDepth 20000 in
theorem vc14_39 {X : Nat × (Nat → Int32)} {d : Nat} (hd : 0 < d) {M : q_M} {a1 a2 a3 : Int32} {K : Int32 → q_M → Prop} (h : q_Ci X (d - 1) 13 [.ref 39, .int a1, .int a2, .int a3] M (fun r2 M1 => K ((1 : Int32) <<< (r2 &&& 31)) M1)) : q_Ci X d 14 [.ref 39, .int a1, .int a2, .int a3] M K := by
  show q_Ex X d 14 0 [some (.ref 39), some (.int a1), some (.int a2), some (.int a3)] [] M (q_ri K)
  refine q_iconst (pc := 0) (v := 1) k14_0 (by decide) ?_
  refine q_aload_n (pc := 1) k14_1 rfl ?_
  refine q_iload_n (pc := 2) k14_2 rfl ?_
  refine q_iload_n (pc := 3) k14_3 rfl ?_
  refine q_iload_n (pc := 4) k14_4 rfl ?_
  refine q_invV (pc := 5) (As := [.int a1, .int a2, .int a3]) (st := [.int 1]) k14_5 lm14_7 ov13 rfl rfl rfl (q_cat rfl) (Nat.le_of_ble_eq_true rfl) hd h ?_
  rintro v M1 ⟨r2, rfl, h⟩
  show q_Ex X d 14 (5 + 3) [some (.ref 39), some (.int a1), some (.int a2), some (.int a3)] [.int r2, .int 1] M1 _
  refine q_ishl (pc := 8) k14_8 ?_
  exact q_ireturn (pc := 9) k14_9 rfl ⟨_, rfl, h⟩
set_option maxRecDepth 20000 in
theorem vc14_40 {X : Nat × (Nat → Int32)} {d : Nat} (hd : 0 < d) {M : q_M} {a1 a2 a3 : Int32} {K : Int32 → q_M → Prop} (h : q_Ci X (d - 1) 40 [.ref 40, .int a1, .int a2, .int a3] M (fun r2 M1 => K ((1 : Int32) <<< (r2 &&& 31)) M1)) : q_Ci X d 14 [.ref 40, .int a1, .int a2, .int a3] M K := by
  show q_Ex X d 14 0 [some (.ref 40), some (.int a1), some (.int a2), some (.int a3)] [] M (q_ri K)
  refine q_iconst (pc := 0) (v := 1) k14_0 (by decide) ?_
  refine q_aload_n (pc := 1) k14_1 rfl ?_
  refine q_iload_n (pc := 2) k14_2 rfl ?_
  refine q_iload_n (pc := 3) k14_3 rfl ?_
  refine q_iload_n (pc := 4) k14_4 rfl ?_
  refine q_invU (pc := 5) (As := [.int a1, .int a2, .int a3]) (st := [.int 1]) k14_5 ou14_7_8 rfl rfl rfl (q_cat rfl) (Nat.le_of_ble_eq_true rfl) hd h ?_
  rintro v M1 ⟨r2, rfl, h⟩
  show q_Ex X d 14 (5 + 3) [some (.ref 40), some (.int a1), some (.int a2), some (.int a3)] [.int r2, .int 1] M1 _
  refine q_ishl (pc := 8) k14_8 ?_
  exact q_ireturn (pc := 9) k14_9 rfl ⟨_, rfl, h⟩
set_option maxRecDepth 20000 in
theorem vc14_41 {X : Nat × (Nat → Int32)} {d : Nat} (hd : 0 < d) {M : q_M} {a1 a2 a3 : Int32} {K : Int32 → q_M → Prop} (h : q_Ci X (d - 1) 12 [.ref 41, .int a1, .int a2, .int a3] M (fun r2 M1 => K ((1 : Int32) <<< (r2 &&& 31)) M1)) : q_Ci X d 14 [.ref 41, .int a1, .int a2, .int a3] M K := by
  show q_Ex X d 14 0 [some (.ref 41), some (.int a1), some (.int a2), some (.int a3)] [] M (q_ri K)
  refine q_iconst (pc := 0) (v := 1) k14_0 (by decide) ?_
  refine q_aload_n (pc := 1) k14_1 rfl ?_
  refine q_iload_n (pc := 2) k14_2 rfl ?_
  refine q_iload_n (pc := 3) k14_3 rfl ?_
  refine q_iload_n (pc := 4) k14_4 rfl ?_
  refine q_invU (pc := 5) (As := [.int a1, .int a2, .int a3]) (st := [.int 1]) k14_5 ou14_7_3 rfl rfl rfl (q_cat rfl) (Nat.le_of_ble_eq_true rfl) hd h ?_
  rintro v M1 ⟨r2, rfl, h⟩
  show q_Ex X d 14 (5 + 3) [some (.ref 41), some (.int a1), some (.int a2), some (.int a3)] [.int r2, .int 1] M1 _
  refine q_ishl (pc := 8) k14_8 ?_
  exact q_ireturn (pc := 9) k14_9 rfl ⟨_, rfl, h⟩
set_option maxRecDepth 20000 in
theorem vc14_43 {X : Nat × (Nat → Int32)} {d : Nat} (hd : 0 < d) {M : q_M} {a1 a2 a3 : Int32} {K : Int32 → q_M → Prop} (h : q_Ci X (d - 1) 39 [.ref 43, .int a1, .int a2, .int a3] M (fun r2 M1 => K ((1 : Int32) <<< (r2 &&& 31)) M1)) : q_Ci X d 14 [.ref 43, .int a1, .int a2, .int a3] M K := by
  show q_Ex X d 14 0 [some (.ref 43), some (.int a1), some (.int a2), some (.int a3)] [] M (q_ri K)
  refine q_iconst (pc := 0) (v := 1) k14_0 (by decide) ?_
  refine q_aload_n (pc := 1) k14_1 rfl ?_
  refine q_iload_n (pc := 2) k14_2 rfl ?_
  refine q_iload_n (pc := 3) k14_3 rfl ?_
  refine q_iload_n (pc := 4) k14_4 rfl ?_
  refine q_invU (pc := 5) (As := [.int a1, .int a2, .int a3]) (st := [.int 1]) k14_5 ou14_7_7 rfl rfl rfl (q_cat rfl) (Nat.le_of_ble_eq_true rfl) hd h ?_
  rintro v M1 ⟨r2, rfl, h⟩
  show q_Ex X d 14 (5 + 3) [some (.ref 43), some (.int a1), some (.int a2), some (.int a3)] [.int r2, .int 1] M1 _
  refine q_ishl (pc := 8) k14_8 ?_
  exact q_ireturn (pc := 9) k14_9 rfl ⟨_, rfl, h⟩
set_option maxRecDepth 20000 in
theorem vc15_11_3 {X : Nat × (Nat → Int32)} {d : Nat} (hd : 0 < d) {M : q_M} {K : q_M → Prop} (h : K (q_row (q_row (q_row (q_row (q_row (q_set (q_set (q_set (q_set (q_set M 11 0 (M 3 0)) 11 1 (M 3 1)) 11 2 (M 3 2)) 11 3 (M 3 3)) 11 4 (M 3 4)) 12 (va_cpy (M 4) (M 12) 0 0 30)) 13 (va_cpy (M 5) (M 13) 0 0 30)) 14 (va_cpy (M 6) (M 14) 0 0 30)) 15 (va_cpy (M 7) (M 15) 0 0 3)) 16 (va_cpy (M 8) (M 16) 0 0 3))) : q_Cv X d 15 [.ref 11, .ref 3] M K := by
  show q_Ex X d 15 0 [some (.ref 11), some (.ref 3)] [] M (q_rn K)
  refine q_aload_n (pc := 0) k15_0 rfl ?_
  refine q_aload_n (pc := 1) k15_1 rfl ?_
  refine q_getIv (pc := 2) (v := M 3 0) k15_2 fg15_30 rfl rfl rfl ?_
  refine q_putI (pc := 5) k15_5 fp15_30 rfl rfl ?_
  refine q_aload_n (pc := 8) k15_8 rfl ?_
  refine q_aload_n (pc := 9) k15_9 rfl ?_
  refine q_getIv (pc := 10) (v := M 3 1) k15_10 fg15_34 rfl rfl rfl ?_
  refine q_putI (pc := 13) k15_13 fp15_34 rfl rfl ?_
  refine q_aload_n (pc := 16) k15_16 rfl ?_
  refine q_aload_n (pc := 17) k15_17 rfl ?_
  refine q_getIv (pc := 18) (v := M 3 2) k15_18 fg15_37 rfl rfl rfl ?_
  refine q_putI (pc := 21) k15_21 fp15_37 rfl rfl ?_
  refine q_aload_n (pc := 24) k15_24 rfl ?_
  refine q_aload_n (pc := 25) k15_25 rfl ?_
  refine q_getIv (pc := 26) (v := M 3 3) k15_26 fg15_40 rfl rfl rfl ?_
  refine q_putI (pc := 29) k15_29 fp15_40 rfl rfl ?_
  refine q_aload_n (pc := 32) k15_32 rfl ?_
  refine q_aload_n (pc := 33) k15_33 rfl ?_
  refine q_getIv (pc := 34) (v := M 3 4) k15_34 fg15_43 rfl rfl rfl ?_
  refine q_putI (pc := 37) k15_37 fp15_43 rfl rfl ?_
  refine q_aload_n (pc := 40) k15_40 rfl ?_
  refine q_getR (pc := 41) k15_41 fg15_9 rfl rfl ?_
  refine q_iconst (pc := 44) (v := 0) k15_44 (by decide) ?_
  refine q_aload_n (pc := 45) k15_45 rfl ?_
  refine q_getR (pc := 46) k15_46 fg15_9 rfl rfl ?_
  refine q_iconst (pc := 49) (v := 0) k15_49 (by decide) ?_
  refine q_bipush (pc := 50) (v := 30) k15_50 (by decide) ?_
  refine q_copyv (pc := 52) (f := va_cpy (M 4) (M 12) 0 0 30) k15_52 lc15_46 oc_copy rfl rfl rfl rfl (by decide) (by decide) (by decide) (Nat.le_of_ble_eq_true rfl) rfl ?_
  refine q_aload_n (pc := 55) k15_55 rfl ?_
  refine q_getR (pc := 56) k15_56 fg15_15 rfl rfl ?_
  refine q_iconst (pc := 59) (v := 0) k15_59 (by decide) ?_
  refine q_aload_n (pc := 60) k15_60 rfl ?_
  refine q_getR (pc := 61) k15_61 fg15_15 rfl rfl ?_
  refine q_iconst (pc := 64) (v := 0) k15_64 (by decide) ?_
  refine q_bipush (pc := 65) (v := 30) k15_65 (by decide) ?_
  refine q_copyv (pc := 67) (f := va_cpy (M 5) (M 13) 0 0 30) k15_67 lc15_46 oc_copy rfl rfl rfl rfl (by decide) (by decide) (by decide) (Nat.le_of_ble_eq_true rfl) rfl ?_
  refine q_aload_n (pc := 70) k15_70 rfl ?_
  refine q_getR (pc := 71) k15_71 fg15_18 rfl rfl ?_
  refine q_iconst (pc := 74) (v := 0) k15_74 (by decide) ?_
  refine q_aload_n (pc := 75) k15_75 rfl ?_
  refine q_getR (pc := 76) k15_76 fg15_18 rfl rfl ?_
  refine q_iconst (pc := 79) (v := 0) k15_79 (by decide) ?_
  refine q_bipush (pc := 80) (v := 30) k15_80 (by decide) ?_
  refine q_copyv (pc := 82) (f := va_cpy (M 6) (M 14) 0 0 30) k15_82 lc15_46 oc_copy rfl rfl rfl rfl (by decide) (by decide) (by decide) (Nat.le_of_ble_eq_true rfl) rfl ?_
  refine q_aload_n (pc := 85) k15_85 rfl ?_
  refine q_getR (pc := 86) k15_86 fg15_21 rfl rfl ?_
  refine q_iconst (pc := 89) (v := 0) k15_89 (by decide) ?_
  refine q_aload_n (pc := 90) k15_90 rfl ?_
  refine q_getR (pc := 91) k15_91 fg15_21 rfl rfl ?_
  refine q_iconst (pc := 94) (v := 0) k15_94 (by decide) ?_
  refine q_iconst (pc := 95) (v := 3) k15_95 (by decide) ?_
  refine q_copyv (pc := 96) (f := va_cpy (M 7) (M 15) 0 0 3) k15_96 lc15_46 oc_copy rfl rfl rfl rfl (by decide) (by decide) (by decide) (Nat.le_of_ble_eq_true rfl) rfl ?_
  refine q_aload_n (pc := 99) k15_99 rfl ?_
  refine q_getR (pc := 100) k15_100 fg15_24 rfl rfl ?_
  refine q_iconst (pc := 103) (v := 0) k15_103 (by decide) ?_
  refine q_aload_n (pc := 104) k15_104 rfl ?_
  refine q_getR (pc := 105) k15_105 fg15_24 rfl rfl ?_
  refine q_iconst (pc := 108) (v := 0) k15_108 (by decide) ?_
  refine q_iconst (pc := 109) (v := 3) k15_109 (by decide) ?_
  refine q_copyv (pc := 110) (f := va_cpy (M 8) (M 16) 0 0 3) k15_110 lc15_46 oc_copy rfl rfl rfl rfl (by decide) (by decide) (by decide) (Nat.le_of_ble_eq_true rfl) rfl ?_
  exact q_return (pc := 113) k15_113 rfl ⟨rfl, h⟩
set_option maxRecDepth 20000 in
theorem vc15_25_11 {X : Nat × (Nat → Int32)} {d : Nat} (hd : 0 < d) {M : q_M} {K : q_M → Prop} (h : K (q_row (q_row (q_row (q_row (q_row (q_set (q_set (q_set (q_set (q_set M 25 0 (M 11 0)) 25 1 (M 11 1)) 25 2 (M 11 2)) 25 3 (M 11 3)) 25 4 (M 11 4)) 26 (va_cpy (M 12) (M 26) 0 0 30)) 27 (va_cpy (M 13) (M 27) 0 0 30)) 28 (va_cpy (M 14) (M 28) 0 0 30)) 29 (va_cpy (M 15) (M 29) 0 0 3)) 30 (va_cpy (M 16) (M 30) 0 0 3))) : q_Cv X d 15 [.ref 25, .ref 11] M K := by
  show q_Ex X d 15 0 [some (.ref 25), some (.ref 11)] [] M (q_rn K)
  refine q_aload_n (pc := 0) k15_0 rfl ?_
  refine q_aload_n (pc := 1) k15_1 rfl ?_
  refine q_getIv (pc := 2) (v := M 11 0) k15_2 fg15_30 rfl rfl rfl ?_
  refine q_putI (pc := 5) k15_5 fp15_30 rfl rfl ?_
  refine q_aload_n (pc := 8) k15_8 rfl ?_
  refine q_aload_n (pc := 9) k15_9 rfl ?_
  refine q_getIv (pc := 10) (v := M 11 1) k15_10 fg15_34 rfl rfl rfl ?_
  refine q_putI (pc := 13) k15_13 fp15_34 rfl rfl ?_
  refine q_aload_n (pc := 16) k15_16 rfl ?_
  refine q_aload_n (pc := 17) k15_17 rfl ?_
  refine q_getIv (pc := 18) (v := M 11 2) k15_18 fg15_37 rfl rfl rfl ?_
  refine q_putI (pc := 21) k15_21 fp15_37 rfl rfl ?_
  refine q_aload_n (pc := 24) k15_24 rfl ?_
  refine q_aload_n (pc := 25) k15_25 rfl ?_
  refine q_getIv (pc := 26) (v := M 11 3) k15_26 fg15_40 rfl rfl rfl ?_
  refine q_putI (pc := 29) k15_29 fp15_40 rfl rfl ?_
  refine q_aload_n (pc := 32) k15_32 rfl ?_
  refine q_aload_n (pc := 33) k15_33 rfl ?_
  refine q_getIv (pc := 34) (v := M 11 4) k15_34 fg15_43 rfl rfl rfl ?_
  refine q_putI (pc := 37) k15_37 fp15_43 rfl rfl ?_
  refine q_aload_n (pc := 40) k15_40 rfl ?_
  refine q_getR (pc := 41) k15_41 fg15_9 rfl rfl ?_
  refine q_iconst (pc := 44) (v := 0) k15_44 (by decide) ?_
  refine q_aload_n (pc := 45) k15_45 rfl ?_
  refine q_getR (pc := 46) k15_46 fg15_9 rfl rfl ?_
  refine q_iconst (pc := 49) (v := 0) k15_49 (by decide) ?_
  refine q_bipush (pc := 50) (v := 30) k15_50 (by decide) ?_
  refine q_copyv (pc := 52) (f := va_cpy (M 12) (M 26) 0 0 30) k15_52 lc15_46 oc_copy rfl rfl rfl rfl (by decide) (by decide) (by decide) (Nat.le_of_ble_eq_true rfl) rfl ?_
  refine q_aload_n (pc := 55) k15_55 rfl ?_
  refine q_getR (pc := 56) k15_56 fg15_15 rfl rfl ?_
  refine q_iconst (pc := 59) (v := 0) k15_59 (by decide) ?_
  refine q_aload_n (pc := 60) k15_60 rfl ?_
  refine q_getR (pc := 61) k15_61 fg15_15 rfl rfl ?_
  refine q_iconst (pc := 64) (v := 0) k15_64 (by decide) ?_
  refine q_bipush (pc := 65) (v := 30) k15_65 (by decide) ?_
  refine q_copyv (pc := 67) (f := va_cpy (M 13) (M 27) 0 0 30) k15_67 lc15_46 oc_copy rfl rfl rfl rfl (by decide) (by decide) (by decide) (Nat.le_of_ble_eq_true rfl) rfl ?_
  refine q_aload_n (pc := 70) k15_70 rfl ?_
  refine q_getR (pc := 71) k15_71 fg15_18 rfl rfl ?_
  refine q_iconst (pc := 74) (v := 0) k15_74 (by decide) ?_
  refine q_aload_n (pc := 75) k15_75 rfl ?_
  refine q_getR (pc := 76) k15_76 fg15_18 rfl rfl ?_
  refine q_iconst (pc := 79) (v := 0) k15_79 (by decide) ?_
  refine q_bipush (pc := 80) (v := 30) k15_80 (by decide) ?_
  refine q_copyv (pc := 82) (f := va_cpy (M 14) (M 28) 0 0 30) k15_82 lc15_46 oc_copy rfl rfl rfl rfl (by decide) (by decide) (by decide) (Nat.le_of_ble_eq_true rfl) rfl ?_
  refine q_aload_n (pc := 85) k15_85 rfl ?_
  refine q_getR (pc := 86) k15_86 fg15_21 rfl rfl ?_
  refine q_iconst (pc := 89) (v := 0) k15_89 (by decide) ?_
  refine q_aload_n (pc := 90) k15_90 rfl ?_
  refine q_getR (pc := 91) k15_91 fg15_21 rfl rfl ?_
  refine q_iconst (pc := 94) (v := 0) k15_94 (by decide) ?_
  refine q_iconst (pc := 95) (v := 3) k15_95 (by decide) ?_
  refine q_copyv (pc := 96) (f := va_cpy (M 15) (M 29) 0 0 3) k15_96 lc15_46 oc_copy rfl rfl rfl rfl (by decide) (by decide) (by decide) (Nat.le_of_ble_eq_true rfl) rfl ?_
  refine q_aload_n (pc := 99) k15_99 rfl ?_
  refine q_getR (pc := 100) k15_100 fg15_24 rfl rfl ?_
  refine q_iconst (pc := 103) (v := 0) k15_103 (by decide) ?_
  refine q_aload_n (pc := 104) k15_104 rfl ?_
  refine q_getR (pc := 105) k15_105 fg15_24 rfl rfl ?_
  refine q_iconst (pc := 108) (v := 0) k15_108 (by decide) ?_
  refine q_iconst (pc := 109) (v := 3) k15_109 (by decide) ?_
  refine q_copyv (pc := 110) (f := va_cpy (M 16) (M 30) 0 0 3) k15_110 lc15_46 oc_copy rfl rfl rfl rfl (by decide) (by decide) (by decide) (Nat.le_of_ble_eq_true rfl) rfl ?_
  exact q_return (pc := 113) k15_113 rfl ⟨rfl, h⟩
set_option maxRecDepth 20000 in
theorem vc15_11_25 {X : Nat × (Nat → Int32)} {d : Nat} (hd : 0 < d) {M : q_M} {K : q_M → Prop} (h : K (q_row (q_row (q_row (q_row (q_row (q_set (q_set (q_set (q_set (q_set M 11 0 (M 25 0)) 11 1 (M 25 1)) 11 2 (M 25 2)) 11 3 (M 25 3)) 11 4 (M 25 4)) 12 (va_cpy (M 26) (M 12) 0 0 30)) 13 (va_cpy (M 27) (M 13) 0 0 30)) 14 (va_cpy (M 28) (M 14) 0 0 30)) 15 (va_cpy (M 29) (M 15) 0 0 3)) 16 (va_cpy (M 30) (M 16) 0 0 3))) : q_Cv X d 15 [.ref 11, .ref 25] M K := by
  show q_Ex X d 15 0 [some (.ref 11), some (.ref 25)] [] M (q_rn K)
  refine q_aload_n (pc := 0) k15_0 rfl ?_
  refine q_aload_n (pc := 1) k15_1 rfl ?_
  refine q_getIv (pc := 2) (v := M 25 0) k15_2 fg15_30 rfl rfl rfl ?_
  refine q_putI (pc := 5) k15_5 fp15_30 rfl rfl ?_
  refine q_aload_n (pc := 8) k15_8 rfl ?_
  refine q_aload_n (pc := 9) k15_9 rfl ?_
  refine q_getIv (pc := 10) (v := M 25 1) k15_10 fg15_34 rfl rfl rfl ?_
  refine q_putI (pc := 13) k15_13 fp15_34 rfl rfl ?_
  refine q_aload_n (pc := 16) k15_16 rfl ?_
  refine q_aload_n (pc := 17) k15_17 rfl ?_
  refine q_getIv (pc := 18) (v := M 25 2) k15_18 fg15_37 rfl rfl rfl ?_
  refine q_putI (pc := 21) k15_21 fp15_37 rfl rfl ?_
  refine q_aload_n (pc := 24) k15_24 rfl ?_
  refine q_aload_n (pc := 25) k15_25 rfl ?_
  refine q_getIv (pc := 26) (v := M 25 3) k15_26 fg15_40 rfl rfl rfl ?_
  refine q_putI (pc := 29) k15_29 fp15_40 rfl rfl ?_
  refine q_aload_n (pc := 32) k15_32 rfl ?_
  refine q_aload_n (pc := 33) k15_33 rfl ?_
  refine q_getIv (pc := 34) (v := M 25 4) k15_34 fg15_43 rfl rfl rfl ?_
  refine q_putI (pc := 37) k15_37 fp15_43 rfl rfl ?_
  refine q_aload_n (pc := 40) k15_40 rfl ?_
  refine q_getR (pc := 41) k15_41 fg15_9 rfl rfl ?_
  refine q_iconst (pc := 44) (v := 0) k15_44 (by decide) ?_
  refine q_aload_n (pc := 45) k15_45 rfl ?_
  refine q_getR (pc := 46) k15_46 fg15_9 rfl rfl ?_
  refine q_iconst (pc := 49) (v := 0) k15_49 (by decide) ?_
  refine q_bipush (pc := 50) (v := 30) k15_50 (by decide) ?_
  refine q_copyv (pc := 52) (f := va_cpy (M 26) (M 12) 0 0 30) k15_52 lc15_46 oc_copy rfl rfl rfl rfl (by decide) (by decide) (by decide) (Nat.le_of_ble_eq_true rfl) rfl ?_
  refine q_aload_n (pc := 55) k15_55 rfl ?_
  refine q_getR (pc := 56) k15_56 fg15_15 rfl rfl ?_
  refine q_iconst (pc := 59) (v := 0) k15_59 (by decide) ?_
  refine q_aload_n (pc := 60) k15_60 rfl ?_
  refine q_getR (pc := 61) k15_61 fg15_15 rfl rfl ?_
  refine q_iconst (pc := 64) (v := 0) k15_64 (by decide) ?_
  refine q_bipush (pc := 65) (v := 30) k15_65 (by decide) ?_
  refine q_copyv (pc := 67) (f := va_cpy (M 27) (M 13) 0 0 30) k15_67 lc15_46 oc_copy rfl rfl rfl rfl (by decide) (by decide) (by decide) (Nat.le_of_ble_eq_true rfl) rfl ?_
  refine q_aload_n (pc := 70) k15_70 rfl ?_
  refine q_getR (pc := 71) k15_71 fg15_18 rfl rfl ?_
  refine q_iconst (pc := 74) (v := 0) k15_74 (by decide) ?_
  refine q_aload_n (pc := 75) k15_75 rfl ?_
  refine q_getR (pc := 76) k15_76 fg15_18 rfl rfl ?_
  refine q_iconst (pc := 79) (v := 0) k15_79 (by decide) ?_
  refine q_bipush (pc := 80) (v := 30) k15_80 (by decide) ?_
  refine q_copyv (pc := 82) (f := va_cpy (M 28) (M 14) 0 0 30) k15_82 lc15_46 oc_copy rfl rfl rfl rfl (by decide) (by decide) (by decide) (Nat.le_of_ble_eq_true rfl) rfl ?_
  refine q_aload_n (pc := 85) k15_85 rfl ?_
  refine q_getR (pc := 86) k15_86 fg15_21 rfl rfl ?_
  refine q_iconst (pc := 89) (v := 0) k15_89 (by decide) ?_
  refine q_aload_n (pc := 90) k15_90 rfl ?_
  refine q_getR (pc := 91) k15_91 fg15_21 rfl rfl ?_
  refine q_iconst (pc := 94) (v := 0) k15_94 (by decide) ?_
  refine q_iconst (pc := 95) (v := 3) k15_95 (by decide) ?_
  refine q_copyv (pc := 96) (f := va_cpy (M 29) (M 15) 0 0 3) k15_96 lc15_46 oc_copy rfl rfl rfl rfl (by decide) (by decide) (by decide) (Nat.le_of_ble_eq_true rfl) rfl ?_
  refine q_aload_n (pc := 99) k15_99 rfl ?_
  refine q_getR (pc := 100) k15_100 fg15_24 rfl rfl ?_
  refine q_iconst (pc := 103) (v := 0) k15_103 (by decide) ?_
  refine q_aload_n (pc := 104) k15_104 rfl ?_
  refine q_getR (pc := 105) k15_105 fg15_24 rfl rfl ?_
  refine q_iconst (pc := 108) (v := 0) k15_108 (by decide) ?_
  refine q_iconst (pc := 109) (v := 3) k15_109 (by decide) ?_
  refine q_copyv (pc := 110) (f := va_cpy (M 30) (M 16) 0 0 3) k15_110 lc15_46 oc_copy rfl rfl rfl rfl (by decide) (by decide) (by decide) (Nat.le_of_ble_eq_true rfl) rfl ?_
  exact q_return (pc := 113) k15_113 rfl ⟨rfl, h⟩
