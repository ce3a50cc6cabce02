set_option maxRecDepth 20000 in
theorem vc71 {X : Nat × (Nat → Int32)} {d : Nat} {M : q_M} {a1 : Int32} {K : Int32 → q_M → Prop} (h : (a1 = 0 → (K (M 11 0) M)) ∧ (a1 = 1 → (K (M 11 1) M)) ∧ (a1 = 2 → (K (M 11 4) M)) ∧ (a1 = 3 → (K (M 11 3) M)) ∧ (a1 = 4 → (K (M 10 4) M)) ∧ (a1 = 5 → (K (M 0 1) M)) ∧ (a1 = 6 → (K (M 10 2) M)) ∧ (a1 = 7 → (K (M 10 3) M)) ∧ ((¬ a1 = 0 ∧ ¬ a1 = 1 ∧ ¬ a1 = 2 ∧ ¬ a1 = 3 ∧ ¬ a1 = 4 ∧ ¬ a1 = 5 ∧ ¬ a1 = 6 ∧ ¬ a1 = 7) → (((a1 < 11) → (K (-9) M)) ∧ ((¬ a1 < 11) → (((16 < a1) → (K (-9) M)) ∧ ((¬ 16 < a1) → (vp_in (a1 - 10) 7 ∧ (K (M 2 (Int32.toNatClampNeg (a1 - 10))) M)))))))) : q_Ci X d 71 [.ref 0, .int a1] M K := by
  show q_Ex X d 71 0 [some (.ref 0), some (.int a1)] [] M (q_ri K)
  refine q_iload_n (pc := 0) k71_0 rfl ?_
  obtain ⟨e0, e1, e2, e3, e4, e5, e6, e7, e999⟩ := h
  by_cases g0 : a1 = 0
  · have h := e0 g0
    refine q_tsIn (pc := 1) 48 k71_1 (off := 47) (by rw [g0]; decide) (by rw [g0]; decide) (by rw [g0]; rfl) (by decide) ?_
    refine q_aload_n (pc := 48) k71_48 rfl ?_
    refine q_getR (pc := 49) k71_49 fg71_26 rfl rfl ?_
    refine q_getR (pc := 52) k71_52 fg71_63 rfl rfl ?_
    refine q_getIv (pc := 55) (v := M 11 0) k71_55 fg71_258 rfl rfl rfl ?_
    exact q_ireturn (pc := 58) k71_58 rfl ⟨_, rfl, h⟩
  by_cases g1 : a1 = 1
  · have h := e1 g1
    refine q_tsIn (pc := 1) 59 k71_1 (off := 58) (by rw [g1]; decide) (by rw [g1]; decide) (by rw [g1]; rfl) (by decide) ?_
    refine q_aload_n (pc := 59) k71_59 rfl ?_
    refine q_getR (pc := 60) k71_60 fg71_26 rfl rfl ?_
    refine q_getR (pc := 63) k71_63 fg71_63 rfl rfl ?_
    refine q_getIv (pc := 66) (v := M 11 1) k71_66 fg71_261 rfl rfl rfl ?_
    exact q_ireturn (pc := 69) k71_69 rfl ⟨_, rfl, h⟩
  by_cases g2 : a1 = 2
  · have h := e2 g2
    refine q_tsIn (pc := 1) 70 k71_1 (off := 69) (by rw [g2]; decide) (by rw [g2]; decide) (by rw [g2]; rfl) (by decide) ?_
    refine q_aload_n (pc := 70) k71_70 rfl ?_
    refine q_getR (pc := 71) k71_71 fg71_26 rfl rfl ?_
    refine q_getR (pc := 74) k71_74 fg71_63 rfl rfl ?_
    refine q_getIv (pc := 77) (v := M 11 4) k71_77 fg71_141 rfl rfl rfl ?_
    exact q_ireturn (pc := 80) k71_80 rfl ⟨_, rfl, h⟩
  by_cases g3 : a1 = 3
  · have h := e3 g3
    refine q_tsIn (pc := 1) 81 k71_1 (off := 80) (by rw [g3]; decide) (by rw [g3]; decide) (by rw [g3]; rfl) (by decide) ?_
    refine q_aload_n (pc := 81) k71_81 rfl ?_
    refine q_getR (pc := 82) k71_82 fg71_26 rfl rfl ?_
    refine q_getR (pc := 85) k71_85 fg71_63 rfl rfl ?_
    refine q_getIv (pc := 88) (v := M 11 3) k71_88 fg71_264 rfl rfl rfl ?_
    exact q_ireturn (pc := 91) k71_91 rfl ⟨_, rfl, h⟩
  by_cases g4 : a1 = 4
  · have h := e4 g4
    refine q_tsIn (pc := 1) 92 k71_1 (off := 91) (by rw [g4]; decide) (by rw [g4]; decide) (by rw [g4]; rfl) (by decide) ?_
    refine q_aload_n (pc := 92) k71_92 rfl ?_
    refine q_getR (pc := 93) k71_93 fg71_26 rfl rfl ?_
    refine q_getIv (pc := 96) (v := M 10 4) k71_96 fg71_203 rfl rfl rfl ?_
    exact q_ireturn (pc := 99) k71_99 rfl ⟨_, rfl, h⟩
  by_cases g5 : a1 = 5
  · have h := e5 g5
    refine q_tsIn (pc := 1) 100 k71_1 (off := 99) (by rw [g5]; decide) (by rw [g5]; decide) (by rw [g5]; rfl) (by decide) ?_
    refine q_aload_n (pc := 100) k71_100 rfl ?_
    refine q_getIv (pc := 101) (v := M 0 1) k71_101 fg71_104 rfl rfl rfl ?_
    exact q_ireturn (pc := 104) k71_104 rfl ⟨_, rfl, h⟩
  by_cases g6 : a1 = 6
  · have h := e6 g6
    refine q_tsIn (pc := 1) 105 k71_1 (off := 104) (by rw [g6]; decide) (by rw [g6]; decide) (by rw [g6]; rfl) (by decide) ?_
    refine q_aload_n (pc := 105) k71_105 rfl ?_
    refine q_getR (pc := 106) k71_106 fg71_26 rfl rfl ?_
    refine q_getIv (pc := 109) (v := M 10 2) k71_109 fg71_134 rfl rfl rfl ?_
    exact q_ireturn (pc := 112) k71_112 rfl ⟨_, rfl, h⟩
  by_cases g7 : a1 = 7
  · have h := e7 g7
    refine q_tsIn (pc := 1) 113 k71_1 (off := 112) (by rw [g7]; decide) (by rw [g7]; decide) (by rw [g7]; rfl) (by decide) ?_
    refine q_aload_n (pc := 113) k71_113 rfl ?_
    refine q_getR (pc := 114) k71_114 fg71_26 rfl rfl ?_
    refine q_getIv (pc := 117) (v := M 10 3) k71_117 fg71_148 rfl rfl rfl ?_
    exact q_ireturn (pc := 120) k71_120 rfl ⟨_, rfl, h⟩
  have h := e999 ⟨g0, g1, g2, g3, g4, g5, g6, g7⟩
  refine q_tsOut (pc := 1) 121 k71_1 (by have i0 := lv_neT g0 (a := 0) rfl; have i1 := lv_neT g1 (a := 1) rfl; have i2 := lv_neT g2 (a := 2) rfl; have i3 := lv_neT g3 (a := 3) rfl; have i4 := lv_neT g4 (a := 4) rfl; have i5 := lv_neT g5 (a := 5) rfl; have i6 := lv_neT g6 (a := 6) rfl; have i7 := lv_neT g7 (a := 7) rfl; omega) (by decide) ?_
  refine q_iload_n (pc := 121) k71_121 rfl ?_
  refine q_bipush (pc := 122) (v := 11) k71_122 (by decide) ?_
  refine q_icmp_lt (pc := 124) 145 k71_124 (by decide) (fun g => ?_) (fun g => ?_)
  · replace h := h.1 g
    refine q_bipush (pc := 145) (v := (-9)) k71_145 (by decide) ?_
    exact q_ireturn (pc := 147) k71_147 rfl ⟨_, rfl, h⟩
  · replace h := h.2 g
    refine q_iload_n (pc := 127) k71_127 rfl ?_
    refine q_bipush (pc := 128) (v := 16) k71_128 (by decide) ?_
    refine q_icmp_gt (pc := 130) 145 k71_130 (by decide) (fun g => ?_) (fun g => ?_)
    · replace h := h.1 g
      refine q_bipush (pc := 145) (v := (-9)) k71_145 (by decide) ?_
      exact q_ireturn (pc := 147) k71_147 rfl ⟨_, rfl, h⟩
    · replace h := h.2 g
      refine q_aload_n (pc := 133) k71_133 rfl ?_
      refine q_getR (pc := 134) k71_134 fg71_13 rfl rfl ?_
      refine q_iload_n (pc := 137) k71_137 rfl ?_
      refine q_bipush (pc := 138) (v := 10) k71_138 (by decide) ?_
      refine q_isub (pc := 140) k71_140 ?_
      refine q_ialdv (pc := 141) (v := M 2 (Int32.toNatClampNeg (a1 - 10))) k71_141 rfl h.1 rfl ?_
      replace h := h.2
      refine q_goto (pc := 142) 147 k71_142 (by decide) ?_
      exact q_ireturn (pc := 147) k71_147 rfl ⟨_, rfl, h⟩
set_option maxRecDepth 20000 in
theorem vc72 {X : Nat × (Nat → Int32)} {d : Nat} {M : q_M} {a1 : Int32} {K : Int32 → q_M → Prop} (h : (((-a1) ≤ 0) → (K a1 M)) ∧ ((¬ (-a1) ≤ 0) → (((7 ≤ (-a1)) → (K a1 M)) ∧ ((¬ 7 ≤ (-a1)) → (vp_in (-a1) 7 ∧ (vp_in (-a1) 7 ∧ (K a1 (q_set M 2 (Int32.toNatClampNeg (-a1)) ((M 2 (Int32.toNatClampNeg (-a1))) + 1))))))))) : q_Ci X d 72 [.ref 0, .int a1] M K := by
  show q_Ex X d 72 0 [some (.ref 0), some (.int a1), none] [] M (q_ri K)
  refine q_iload_n (pc := 0) k72_0 rfl ?_
  refine q_ineg (pc := 1) k72_1 ?_
  refine q_istore_n (pc := 2) [some (.ref 0), some (.int a1), some (.int (-a1))] k72_2 rfl (by decide) rfl ?_
  refine q_iload_n (pc := 3) k72_3 rfl ?_
  refine q_if_le (pc := 4) 26 k72_4 (by decide) (fun g => ?_) (fun g => ?_)
  · replace h := h.1 g
    refine q_iload_n (pc := 26) k72_26 rfl ?_
    exact q_ireturn (pc := 27) k72_27 rfl ⟨_, rfl, h⟩
  · replace h := h.2 g
    refine q_iload_n (pc := 7) k72_7 rfl ?_
    refine q_aload_n (pc := 8) k72_8 rfl ?_
    refine q_getR (pc := 9) k72_9 fg72_13 rfl rfl ?_
    refine q_alen (pc := 12) (v := 7) k72_12 rfl rfl ?_
    refine q_icmp_ge (pc := 13) 26 k72_13 (by decide) (fun g => ?_) (fun g => ?_)
    · replace h := h.1 g
      refine q_iload_n (pc := 26) k72_26 rfl ?_
      exact q_ireturn (pc := 27) k72_27 rfl ⟨_, rfl, h⟩
    · replace h := h.2 g
      refine q_aload_n (pc := 16) k72_16 rfl ?_
      refine q_getR (pc := 17) k72_17 fg72_13 rfl rfl ?_
      refine q_iload_n (pc := 20) k72_20 rfl ?_
      refine q_dup2 (pc := 21) k72_21 rfl rfl ?_
      refine q_ialdv (pc := 22) (v := M 2 (Int32.toNatClampNeg (-a1))) k72_22 rfl h.1 rfl ?_
      replace h := h.2
      refine q_iconst (pc := 23) (v := 1) k72_23 (by decide) ?_
      refine q_iadd (pc := 24) k72_24 ?_
      refine q_iastv (pc := 25) (k := (Int32.toNatClampNeg (-a1))) k72_25 rfl h.1 rfl ?_
      replace h := h.2
      refine q_iload_n (pc := 26) k72_26 rfl ?_
      exact q_ireturn (pc := 27) k72_27 rfl ⟨_, rfl, h⟩
set_option maxRecDepth 20000 in
theorem vc73 {X : Nat × (Nat → Int32)} {d : Nat} {M : q_M} {K : Int32 → q_M → Prop} (h : (((M 11 2) ≤ 0) → (K 0 M)) ∧ ((¬ (M 11 2) ≤ 0) → (K 1 M))) : q_Ci X d 73 [.ref 0] M K := by
  show q_Ex X d 73 0 [some (.ref 0)] [] M (q_ri K)
  refine q_aload_n (pc := 0) k73_0 rfl ?_
  refine q_getR (pc := 1) k73_1 fg73_26 rfl rfl ?_
  refine q_getR (pc := 4) k73_4 fg73_63 rfl rfl ?_
  refine q_getIv (pc := 7) (v := M 11 2) k73_7 fg73_118 rfl rfl rfl ?_
  refine q_if_le (pc := 10) 17 k73_10 (by decide) (fun g => ?_) (fun g => ?_)
  · replace h := h.1 g
    refine q_iconst (pc := 17) (v := 0) k73_17 (by decide) ?_
    exact q_zreturn (pc := 18) k73_18 rfl (by decide) ⟨_, rfl, h⟩
  · replace h := h.2 g
    refine q_iconst (pc := 13) (v := 1) k73_13 (by decide) ?_
    refine q_goto (pc := 14) 18 k73_14 (by decide) ?_
    exact q_zreturn (pc := 18) k73_18 rfl (by decide) ⟨_, rfl, h⟩
set_option maxRecDepth 20000 in
theorem vc74 {X : Nat × (Nat → Int32)} {d : Nat} (hd : 0 < d) {M : q_M} {K : Nat → q_M → Prop} (h : (((M 0 15) = (M 10 1)) → (K 64 M)) ∧ ((¬ (M 0 15) = (M 10 1)) → (q_Cv X (d - 1) 41 [.ref 44, .int (M 11 4)] M (fun M1 => q_Cv X (d - 1) 30 [.ref 64] M1 (fun M2 => K 64 (q_set M2 0 15 (M2 10 1))))))) : q_Cr X d 74 [.ref 0] M K := by
  show q_Ex X d 74 0 [some (.ref 0)] [] M (q_rr K)
  refine q_aload_n (pc := 0) k74_0 rfl ?_
  refine q_getIv (pc := 1) (v := M 0 15) k74_1 fg74_54 rfl rfl rfl ?_
  refine q_aload_n (pc := 4) k74_4 rfl ?_
  refine q_getR (pc := 5) k74_5 fg74_26 rfl rfl ?_
  refine q_getIv (pc := 8) (v := M 10 1) k74_8 fg74_267 rfl rfl rfl ?_
  refine q_icmp_eq (pc := 11) 49 k74_11 (by decide) (fun g => ?_) (fun g => ?_)
  · replace h := h.1 g
    refine q_aload_n (pc := 49) k74_49 rfl ?_
    refine q_getR (pc := 50) k74_50 fg74_81 rfl rfl ?_
    exact q_areturn (pc := 53) k74_53 rfl ⟨_, rfl, h⟩
  · replace h := h.2 g
    refine q_aload_n (pc := 14) k74_14 rfl ?_
    refine q_getR (pc := 15) k74_15 fg74_69 rfl rfl ?_
    refine q_aload_n (pc := 18) k74_18 rfl ?_
    refine q_getR (pc := 19) k74_19 fg74_26 rfl rfl ?_
    refine q_getR (pc := 22) k74_22 fg74_63 rfl rfl ?_
    refine q_getIv (pc := 25) (v := M 11 4) k74_25 fg74_141 rfl rfl rfl ?_
    refine q_invV (pc := 28) (As := [.int (M 11 4)]) (st := []) k74_28 lm74_224 ov41 rfl rfl rfl (q_cat rfl) (Nat.le_of_ble_eq_true rfl) hd h ?_
    rintro v M1 ⟨rfl, h⟩
    show q_Ex X d 74 (28 + 3) [some (.ref 0)] [] M1 _
    refine q_aload_n (pc := 31) k74_31 rfl ?_
    refine q_getR (pc := 32) k74_32 fg74_81 rfl rfl ?_
    refine q_invV (pc := 35) (As := []) (st := []) k74_35 lm74_270 ov30 rfl rfl rfl (q_cat rfl) (Nat.le_of_ble_eq_true rfl) hd h ?_
    rintro v M2 ⟨rfl, h⟩
    show q_Ex X d 74 (35 + 3) [some (.ref 0)] [] M2 _
    refine q_aload_n (pc := 38) k74_38 rfl ?_
    refine q_aload_n (pc := 39) k74_39 rfl ?_
    refine q_getR (pc := 40) k74_40 fg74_26 rfl rfl ?_
    refine q_getIv (pc := 43) (v := M2 10 1) k74_43 fg74_267 rfl rfl rfl ?_
    refine q_putI (pc := 46) k74_46 fp74_54 rfl rfl ?_
    refine q_aload_n (pc := 49) k74_49 rfl ?_
    refine q_getR (pc := 50) k74_50 fg74_81 rfl rfl ?_
    exact q_areturn (pc := 53) k74_53 rfl ⟨_, rfl, h⟩
set_option maxRecDepth 20000 in
theorem vc75 {X : Nat × (Nat → Int32)} {d : Nat} {M : q_M} {K : Nat → q_M → Prop} (h : (((M 10 2) < 0) → (K 39 M)) ∧ ((¬ (M 10 2) < 0) → (((5 ≤ (M 10 2)) → (K 39 M)) ∧ ((¬ 5 ≤ (M 10 2)) → (vp_in (M 10 2) 5 ∧ (K (39 + Int32.toNatClampNeg (M 10 2)) M)))))) : q_Cr X d 75 [.ref 0] M K := by
  show q_Ex X d 75 0 [some (.ref 0)] [] M (q_rr K)
  refine q_aload_n (pc := 0) k75_0 rfl ?_
  refine q_getR (pc := 1) k75_1 fg75_26 rfl rfl ?_
  refine q_getIv (pc := 4) (v := M 10 2) k75_4 fg75_134 rfl rfl rfl ?_
  refine q_if_lt (pc := 7) 40 k75_7 (by decide) (fun g => ?_) (fun g => ?_)
  · replace h := h.1 g
    refine q_aload_n (pc := 40) k75_40 rfl ?_
    refine q_getR (pc := 41) k75_41 fg75_50 rfl rfl ?_
    refine q_iconst (pc := 44) (v := 0) k75_44 (by decide) ?_
    refine q_aaldv (pc := 45) (t := 39) k75_45 rfl (by decide) rfl ?_
    exact q_areturn (pc := 46) k75_46 rfl ⟨_, rfl, h⟩
  · replace h := h.2 g
    refine q_aload_n (pc := 10) k75_10 rfl ?_
    refine q_getR (pc := 11) k75_11 fg75_26 rfl rfl ?_
    refine q_getIv (pc := 14) (v := M 10 2) k75_14 fg75_134 rfl rfl rfl ?_
    refine q_aload_n (pc := 17) k75_17 rfl ?_
    refine q_getR (pc := 18) k75_18 fg75_50 rfl rfl ?_
    refine q_alenR (pc := 21) (v := 5) k75_21 rfl rfl ?_
    refine q_icmp_ge (pc := 22) 40 k75_22 (by decide) (fun g => ?_) (fun g => ?_)
    · replace h := h.1 g
      refine q_aload_n (pc := 40) k75_40 rfl ?_
      refine q_getR (pc := 41) k75_41 fg75_50 rfl rfl ?_
      refine q_iconst (pc := 44) (v := 0) k75_44 (by decide) ?_
      refine q_aaldv (pc := 45) (t := 39) k75_45 rfl (by decide) rfl ?_
      exact q_areturn (pc := 46) k75_46 rfl ⟨_, rfl, h⟩
    · replace h := h.2 g
      refine q_aload_n (pc := 25) k75_25 rfl ?_
      refine q_getR (pc := 26) k75_26 fg75_50 rfl rfl ?_
      refine q_aload_n (pc := 29) k75_29 rfl ?_
      refine q_getR (pc := 30) k75_30 fg75_26 rfl rfl ?_
      refine q_getIv (pc := 33) (v := M 10 2) k75_33 fg75_134 rfl rfl rfl ?_
      have w1 := h.1
      replace h := h.2
      refine q_aald (pc := 36) k75_36 rfl w1 ?_
      refine q_goto (pc := 37) 46 k75_37 (by decide) ?_
      exact q_areturn (pc := 46) k75_46 rfl ⟨_, rfl, h⟩
set_option maxRecDepth 20000 in
theorem vc76 {X : Nat × (Nat → Int32)} {d : Nat} (hd : 0 < d) {M : q_M} {K : Int32 → q_M → Prop} (h : q_Cr X (d - 1) 75 [.ref 0] M (fun r2 M1 => q_Ci X (d - 1) 85 [.int (M 11 4)] M1 (fun r4 M3 => q_Ex X d 76 24 [some (.ref 0), some (.int (M 11 4)), some (.ref r2), some (.int 0), some (.int r4)] [] M3 (q_ri K)))) : q_Ci X d 76 [.ref 0] M K := by
  show q_Ex X d 76 0 [some (.ref 0), none, none, none, none] [] M (q_ri K)
  refine q_aload_n (pc := 0) k76_0 rfl ?_
  refine q_getR (pc := 1) k76_1 fg76_26 rfl rfl ?_
  refine q_getR (pc := 4) k76_4 fg76_63 rfl rfl ?_
  refine q_getIv (pc := 7) (v := M 11 4) k76_7 fg76_141 rfl rfl rfl ?_
  refine q_istore_n (pc := 10) [some (.ref 0), some (.int (M 11 4)), none, none, none] k76_10 rfl (by decide) rfl ?_
  refine q_aload_n (pc := 11) k76_11 rfl ?_
  refine q_invV (pc := 12) (As := []) (st := []) k76_12 lm76_212 ov75 rfl rfl rfl (q_cat rfl) (Nat.le_of_ble_eq_true rfl) hd h ?_
  rintro v M1 ⟨r2, rfl, h⟩
  show q_Ex X d 76 (12 + 3) [some (.ref 0), some (.int (M 11 4)), none, none, none] [.ref r2] M1 _
  refine q_astore_n (pc := 15) [some (.ref 0), some (.int (M 11 4)), some (.ref r2), none, none] k76_15 rfl (by decide) rfl ?_
  refine q_iconst (pc := 16) (v := 0) k76_16 (by decide) ?_
  refine q_istore_n (pc := 17) [some (.ref 0), some (.int (M 11 4)), some (.ref r2), some (.int 0), none] k76_17 rfl (by decide) rfl ?_
  refine q_iload_n (pc := 18) k76_18 rfl ?_
  refine q_invS (pc := 19) (As := [.int (M 11 4)]) (st := []) k76_19 lm76_165 os85 rfl rfl (q_cat rfl) (Nat.le_of_ble_eq_true rfl) hd h ?_
  rintro v M3 ⟨r4, rfl, h⟩
  show q_Ex X d 76 (19 + 3) [some (.ref 0), some (.int (M 11 4)), some (.ref r2), some (.int 0), none] [.int r4] M3 _
  refine q_istore (pc := 22) [some (.ref 0), some (.int (M 11 4)), some (.ref r2), some (.int 0), some (.int r4)] k76_22 rfl (by decide) rfl ?_
  exact h
set_option maxRecDepth 20000 in
theorem vc76_p24 {X : Nat × (Nat → Int32)} {d : Nat} (hd : 0 < d) {M : q_M} {a1 a3 a4 : Int32} {K : Int32 → q_M → Prop} (h : q_Ci X (d - 1) 86 [.int a1] M (fun r2 M1 => ((r2 ≤ a4) → (K a3 M1)) ∧ ((¬ r2 ≤ a4) → (vp_in a4 9 ∧ (q_CV X (d - 1) 76 276 r2 [.int ((q_rc X 0).2 (Int32.toNatClampNeg a4)), .int a1, .int (M1 10 3)] M1 (fun r3 M4 => ((r3 = 0) → (q_Ex X d 76 24 [some (.ref 0), some (.int a1), some (.ref r2), some (.int a3), some (.int (a4 + 1))] [] M4 (q_ri K))) ∧ ((¬ r3 = 0) → (q_Ex X d 76 24 [some (.ref 0), some (.int a1), some (.ref r2), some (.int (a3 ||| (1 <<< (a4 &&& 31)))), some (.int (a4 + 1))] [] M4 (q_ri K))))))))) : q_Ex X d 76 24 [some (.ref 0), some (.int a1), some (.ref r2), some (.int a3), some (.int a4)] [] M (q_ri K) := by
  refine q_iload (pc := 24) k76_24 rfl ?_
  refine q_iload_n (pc := 26) k76_26 rfl ?_
  refine q_invS (pc := 27) (As := [.int a1]) (st := [.int a4]) k76_27 lm76_168 os86 rfl rfl (q_cat rfl) (Nat.le_of_ble_eq_true rfl) hd h ?_
  rintro v M1 ⟨r2, rfl, h⟩
  show q_Ex X d 76 (27 + 3) [some (.ref 0), some (.int a1), some (.ref r2), some (.int a3), some (.int a4)] [.int r2, .int a4] M1 _
  refine q_icmp_ge (pc := 30) 67 k76_30 (by decide) (fun g => ?_) (fun g => ?_)
  · replace h := h.1 g
    refine q_iload_n (pc := 67) k76_67 rfl ?_
    exact q_ireturn (pc := 68) k76_68 rfl ⟨_, rfl, h⟩
  · replace h := h.2 g
    refine q_aload_n (pc := 33) k76_33 rfl ?_
    refine q_gets (pc := 34) k76_34 (j := 0) (by decide) fs76_273 ?_
    refine q_iload (pc := 37) k76_37 rfl ?_
    refine q_raldv (pc := 39) (j := 0) (v := (q_rc X 0).2 (Int32.toNatClampNeg a4)) k76_39 (by decide) h.1 rfl ?_
    replace h := h.2
    refine q_iload_n (pc := 40) k76_40 rfl ?_
    refine q_aload_n (pc := 41) k76_41 rfl ?_
    refine q_getR (pc := 42) k76_42 fg76_26 rfl rfl ?_
    refine q_getIv (pc := 45) (v := M1 10 3) k76_45 fg76_148 rfl rfl rfl ?_
    refine q_invC (pc := 48) (As := [.int ((q_rc X 0).2 (Int32.toNatClampNeg a4)), .int a1, .int (M1 10 3)]) (st := []) k76_48 rfl (q_cat rfl) (Nat.le_of_ble_eq_true rfl) hd h (fun r3 M4 h => ?_)
    refine q_if_eq (pc := 51) 61 k76_51 (by decide) (fun g => ?_) (fun g => ?_)
    · replace h := h.1 g
      refine q_iinc (pc := 61) (v := a4 + 1) [some (.ref 0), some (.int a1), some (.ref r2), some (.int a3), some (.int (a4 + 1))] k76_61 rfl rfl rfl (by decide) rfl ?_
      refine q_goto (pc := 64) 24 k76_64 (by decide) ?_
      exact h
    · replace h := h.2 g
      refine q_iload_n (pc := 54) k76_54 rfl ?_
      refine q_iconst (pc := 55) (v := 1) k76_55 (by decide) ?_
      refine q_iload (pc := 56) k76_56 rfl ?_
      refine q_ishl (pc := 58) k76_58 ?_
      refine q_ior (pc := 59) k76_59 ?_
      refine q_istore_n (pc := 60) [some (.ref 0), some (.int a1), some (.ref r2), some (.int (a3 ||| (1 <<< (a4 &&& 31)))), some (.int a4)] k76_60 rfl (by decide) rfl ?_
      refine q_iinc (pc := 61) (v := a4 + 1) [some (.ref 0), some (.int a1), some (.ref r2), some (.int (a3 ||| (1 <<< (a4 &&& 31)))), some (.int (a4 + 1))] k76_61 rfl rfl rfl (by decide) rfl ?_
      refine q_goto (pc := 64) 24 k76_64 (by decide) ?_
      exact h
set_option maxRecDepth 20000 in
theorem vc77 {X : Nat × (Nat → Int32)} {d : Nat} (hd : 0 < d) {M : q_M} {K : Int32 → q_M → Prop} (h : q_Cr X (d - 1) 74 [.ref 0] M (fun r2 M1 => r2 = 64 ∧ (q_Ci X (d - 1) 76 [.ref 0] M1 (fun r4 M3 => q_Ci X (d - 1) 35 [.ref 64, .int r4] M3 (fun r6 M5 => K r6 M5))))) : q_Ci X d 77 [.ref 0] M K := by
  show q_Ex X d 77 0 [some (.ref 0)] [] M (q_ri K)
  refine q_aload_n (pc := 0) k77_0 rfl ?_
  refine q_invV (pc := 1) (As := []) (st := []) k77_1 lm77_171 ov74 rfl rfl rfl (q_cat rfl) (Nat.le_of_ble_eq_true rfl) hd h ?_
  rintro v M1 ⟨r2, rfl, rfl, h⟩
  show q_Ex X d 77 (1 + 3) [some (.ref 0)] [.ref 64] M1 _
  refine q_aload_n (pc := 4) k77_4 rfl ?_
  refine q_invV (pc := 5) (As := []) (st := [.ref 64]) k77_5 lm77_178 ov76 rfl rfl rfl (q_cat rfl) (Nat.le_of_ble_eq_true rfl) hd h ?_
  rintro v M3 ⟨r4, rfl, h⟩
  show q_Ex X d 77 (5 + 3) [some (.ref 0)] [.int r4, .ref 64] M3 _
  refine q_invV (pc := 8) (As := [.int r4]) (st := []) k77_8 lm77_175 ov35 rfl rfl rfl (q_cat rfl) (Nat.le_of_ble_eq_true rfl) hd h ?_
  rintro v M5 ⟨r6, rfl, h⟩
  show q_Ex X d 77 (8 + 3) [some (.ref 0)] [.int r6] M5 _
  exact q_ireturn (pc := 11) k77_11 rfl ⟨_, rfl, h⟩
set_option maxRecDepth 20000 in
theorem vc78 {X : Nat × (Nat → Int32)} {d : Nat} (hd : 0 < d) {M : q_M} {a1 : Int32} {K : Int32 → q_M → Prop} (h : q_Cr X (d - 1) 74 [.ref 0] M (fun r2 M1 => r2 = 64 ∧ (q_Ci X (d - 1) 76 [.ref 0] M1 (fun r4 M3 => q_Ci X (d - 1) 37 [.ref 64, .int a1, .int r4] M3 (fun r6 M5 => K r6 M5))))) : q_Ci X d 78 [.ref 0, .int a1] M K := by
  show q_Ex X d 78 0 [some (.ref 0), some (.int a1)] [] M (q_ri K)
  refine q_aload_n (pc := 0) k78_0 rfl ?_
  refine q_invV (pc := 1) (As := []) (st := []) k78_1 lm78_171 ov74 rfl rfl rfl (q_cat rfl) (Nat.le_of_ble_eq_true rfl) hd h ?_
  rintro v M1 ⟨r2, rfl, rfl, h⟩
  show q_Ex X d 78 (1 + 3) [some (.ref 0), some (.int a1)] [.ref 64] M1 _
  refine q_iload_n (pc := 4) k78_4 rfl ?_
  refine q_aload_n (pc := 5) k78_5 rfl ?_
  refine q_invV (pc := 6) (As := []) (st := [.int a1, .ref 64]) k78_6 lm78_178 ov76 rfl rfl rfl (q_cat rfl) (Nat.le_of_ble_eq_true rfl) hd h ?_
  rintro v M3 ⟨r4, rfl, h⟩
  show q_Ex X d 78 (6 + 3) [some (.ref 0), some (.int a1)] [.int r4, .int a1, .ref 64] M3 _
  refine q_invV (pc := 9) (As := [.int a1, .int r4]) (st := []) k78_9 lm78_280 ov37 rfl rfl rfl (q_cat rfl) (Nat.le_of_ble_eq_true rfl) hd h ?_
  rintro v M5 ⟨r6, rfl, h⟩
  show q_Ex X d 78 (9 + 3) [some (.ref 0), some (.int a1)] [.int r6] M5 _
  exact q_ireturn (pc := 12) k78_12 rfl ⟨_, rfl, h⟩
set_option maxRecDepth 20000 in
theorem vc79 {X : Nat × (Nat → Int32)} {d : Nat} {M : q_M} {a1 a2 : Int32} {K : Int32 → q_M → Prop} (h : ((a1 < (M 11 4)) → (q_Ex X d 79 24 [some (.ref 0), some (.int a1), some (.int a2), some (.int (M 11 4)), some (.int 0), some (.int 0), none] [] M (q_ri K))) ∧ ((¬ a1 < (M 11 4)) → (K 1 M))) : q_Ci X d 79 [.ref 0, .int a1, .int a2] M K := by
  show q_Ex X d 79 0 [some (.ref 0), some (.int a1), some (.int a2), none, none, none, none] [] M (q_ri K)
  refine q_aload_n (pc := 0) k79_0 rfl ?_
  refine q_getR (pc := 1) k79_1 fg79_26 rfl rfl ?_
  refine q_getR (pc := 4) k79_4 fg79_63 rfl rfl ?_
  refine q_getIv (pc := 7) (v := M 11 4) k79_7 fg79_141 rfl rfl rfl ?_
  refine q_istore_n (pc := 10) [some (.ref 0), some (.int a1), some (.int a2), some (.int (M 11 4)), none, none, none] k79_10 rfl (by decide) rfl ?_
  refine q_iload_n (pc := 11) k79_11 rfl ?_
  refine q_iload_n (pc := 12) k79_12 rfl ?_
  refine q_icmp_lt (pc := 13) 18 k79_13 (by decide) (fun g => ?_) (fun g => ?_)
  · replace h := h.1 g
    refine q_iconst (pc := 18) (v := 0) k79_18 (by decide) ?_
    refine q_istore (pc := 19) [some (.ref 0), some (.int a1), some (.int a2), some (.int (M 11 4)), some (.int 0), none, none] k79_19 rfl (by decide) rfl ?_
    refine q_iconst (pc := 21) (v := 0) k79_21 (by decide) ?_
    refine q_istore (pc := 22) [some (.ref 0), some (.int a1), some (.int a2), some (.int (M 11 4)), some (.int 0), some (.int 0), none] k79_22 rfl (by decide) rfl ?_
    exact h
  · replace h := h.2 g
    refine q_iconst (pc := 16) (v := 1) k79_16 (by decide) ?_
    exact q_ireturn (pc := 17) k79_17 rfl ⟨_, rfl, h⟩
set_option maxRecDepth 20000 in
theorem vc79_p24 {X : Nat × (Nat → Int32)} {d : Nat} (hd : 0 < d) {M : q_M} {a1 a2 a3 a4 a5 : Int32} {K : Int32 → q_M → Prop} (h : ((a3 ≤ a5) → (K a4 M)) ∧ ((¬ a3 ≤ a5) → (((¬ ((a2 >>> (a5 &&& 31)) &&& 1) = 0) → (q_Ex X d 79 24 [some (.ref 0), some (.int a1), some (.int a2), some (.int a3), some (.int a4), some (.int (a5 + 1)), none] [] M (q_ri K))) ∧ ((((a2 >>> (a5 &&& 31)) &&& 1) = 0) → (q_Ci X (d - 1) 155 [.int (a2 >>> ((a5 + 1) &&& 31))] M (fun r2 M1 => ((¬ (r2 &&& 1) = 0) → (q_Ci X (d - 1) 28 [.ref 11, .int a1, .int a5] M1 (fun r4 M3 => q_Ci X (d - 1) 79 [.ref 0, .int (a1 + 1), .int (a2 ||| (1 <<< (a5 &&& 31)))] M3 (fun r6 M5 => q_Ex X d 79 24 [some (.ref 0), some (.int a1), some (.int a2), some (.int a3), some (.int (a4 + (((-1) * r4) * r6))), some (.int (a5 + 1)), none] [] M5 (q_ri K))))) ∧ (((r2 &&& 1) = 0) → (q_Ci X (d - 1) 28 [.ref 11, .int a1, .int a5] M1 (fun r8 M7 => q_Ci X (d - 1) 79 [.ref 0, .int (a1 + 1), .int (a2 ||| (1 <<< (a5 &&& 31)))] M7 (fun r10 M9 => q_Ex X d 79 24 [some (.ref 0), some (.int a1), some (.int a2), some (.int a3), some (.int (a4 + ((1 * r8) * r10))), some (.int (a5 + 1)), none] [] M9 (q_ri K))))))))))) : q_Ex X d 79 24 [some (.ref 0), some (.int a1), some (.int a2), some (.int a3), some (.int a4), some (.int a5), none] [] M (q_ri K) := by
  refine q_iload (pc := 24) k79_24 rfl ?_
  refine q_iload_n (pc := 26) k79_26 rfl ?_
  refine q_icmp_ge (pc := 27) 101 k79_27 (by decide) (fun g => ?_) (fun g => ?_)
  · replace h := h.1 g
    refine q_iload (pc := 101) k79_101 rfl ?_
    exact q_ireturn (pc := 103) k79_103 rfl ⟨_, rfl, h⟩
  · replace h := h.2 g
    refine q_iload_n (pc := 30) k79_30 rfl ?_
    refine q_iload (pc := 31) k79_31 rfl ?_
    refine q_ishr (pc := 33) k79_33 ?_
    refine q_iconst (pc := 34) (v := 1) k79_34 (by decide) ?_
    refine q_iand (pc := 35) k79_35 ?_
    refine q_if_ne (pc := 36) 95 k79_36 (by decide) (fun g => ?_) (fun g => ?_)
    · replace h := h.1 g
      refine q_iinc (pc := 95) (v := a5 + 1) [some (.ref 0), some (.int a1), some (.int a2), some (.int a3), some (.int a4), some (.int (a5 + 1)), none] k79_95 rfl rfl rfl (by decide) rfl ?_
      refine q_goto (pc := 98) 24 k79_98 (by decide) ?_
      exact h
    · replace h := h.2 g
      refine q_iload_n (pc := 39) k79_39 rfl ?_
      refine q_iload (pc := 40) k79_40 rfl ?_
      refine q_iconst (pc := 42) (v := 1) k79_42 (by decide) ?_
      refine q_iadd (pc := 43) k79_43 ?_
      refine q_ishr (pc := 44) k79_44 ?_
      refine q_invS (pc := 45) (As := [.int (a2 >>> ((a5 + 1) &&& 31))]) (st := []) k79_45 lm79_282 os155 rfl rfl (q_cat rfl) (Nat.le_of_ble_eq_true rfl) hd h ?_
      rintro v M1 ⟨r2, rfl, h⟩
      show q_Ex X d 79 (45 + 3) [some (.ref 0), some (.int a1), some (.int a2), some (.int a3), some (.int a4), some (.int a5), none] [.int r2] M1 _
      refine q_iconst (pc := 48) (v := 1) k79_48 (by decide) ?_
      refine q_iand (pc := 49) k79_49 ?_
      refine q_if_ne (pc := 50) 57 k79_50 (by decide) (fun g => ?_) (fun g => ?_)
      · replace h := h.1 g
        refine q_iconst (pc := 57) (v := (-1)) k79_57 (by decide) ?_
        refine q_istore (pc := 58) [some (.ref 0), some (.int a1), some (.int a2), some (.int a3), some (.int a4), some (.int a5), some (.int (-1))] k79_58 rfl (by decide) rfl ?_
        refine q_iload (pc := 60) k79_60 rfl ?_
        refine q_iload (pc := 62) k79_62 rfl ?_
        refine q_aload_n (pc := 64) k79_64 rfl ?_
        refine q_getR (pc := 65) k79_65 fg79_26 rfl rfl ?_
        refine q_getR (pc := 68) k79_68 fg79_63 rfl rfl ?_
        refine q_iload_n (pc := 71) k79_71 rfl ?_
        refine q_iload (pc := 72) k79_72 rfl ?_
        refine q_invV (pc := 74) (As := [.int a1, .int a5]) (st := [.int (-1), .int a4]) k79_74 lm79_154 ov28 rfl rfl rfl (q_cat rfl) (Nat.le_of_ble_eq_true rfl) hd h ?_
        rintro v M3 ⟨r4, rfl, h⟩
        show q_Ex X d 79 (74 + 3) [some (.ref 0), some (.int a1), some (.int a2), some (.int a3), some (.int a4), some (.int a5), some (.int (-1))] [.int r4, .int (-1), .int a4] M3 _
        refine q_imul (pc := 77) k79_77 ?_
        refine q_aload_n (pc := 78) k79_78 rfl ?_
        refine q_iload_n (pc := 79) k79_79 rfl ?_
        refine q_iconst (pc := 80) (v := 1) k79_80 (by decide) ?_
        refine q_iadd (pc := 81) k79_81 ?_
        refine q_iload_n (pc := 82) k79_82 rfl ?_
        refine q_iconst (pc := 83) (v := 1) k79_83 (by decide) ?_
        refine q_iload (pc := 84) k79_84 rfl ?_
        refine q_ishl (pc := 86) k79_86 ?_
        refine q_ior (pc := 87) k79_87 ?_
        refine q_invV (pc := 88) (As := [.int (a1 + 1), .int (a2 ||| (1 <<< (a5 &&& 31)))]) (st := [.int ((-1) * r4), .int a4]) k79_88 lm79_162 ov79 rfl rfl rfl (q_cat rfl) (Nat.le_of_ble_eq_true rfl) hd h ?_
        rintro v M5 ⟨r6, rfl, h⟩
        show q_Ex X d 79 (88 + 3) [some (.ref 0), some (.int a1), some (.int a2), some (.int a3), some (.int a4), some (.int a5), some (.int (-1))] [.int r6, .int ((-1) * r4), .int a4] M5 _
        refine q_imul (pc := 91) k79_91 ?_
        refine q_iadd (pc := 92) k79_92 ?_
        refine q_istore (pc := 93) [some (.ref 0), some (.int a1), some (.int a2), some (.int a3), some (.int (a4 + (((-1) * r4) * r6))), some (.int a5), some (.int (-1))] k79_93 rfl (by decide) rfl ?_
        refine q_iinc (pc := 95) (v := a5 + 1) [some (.ref 0), some (.int a1), some (.int a2), some (.int a3), some (.int (a4 + (((-1) * r4) * r6))), some (.int (a5 + 1)), some (.int (-1))] k79_95 rfl rfl rfl (by decide) rfl ?_
        refine q_goto (pc := 98) 24 k79_98 (by decide) ?_
        exact q_forget [some (.ref 0), some (.int a1), some (.int a2), some (.int a3), some (.int (a4 + (((-1) * r4) * r6))), some (.int (a5 + 1)), none] (q_subOk (And.intro rfl (And.intro rfl (And.intro rfl (And.intro rfl (And.intro rfl (And.intro rfl (trivial)))))))) h
      · replace h := h.2 g
        refine q_iconst (pc := 53) (v := 1) k79_53 (by decide) ?_
        refine q_goto (pc := 54) 58 k79_54 (by decide) ?_
        refine q_istore (pc := 58) [some (.ref 0), some (.int a1), some (.int a2), some (.int a3), some (.int a4), some (.int a5), some (.int 1)] k79_58 rfl (by decide) rfl ?_
        refine q_iload (pc := 60) k79_60 rfl ?_
        refine q_iload (pc := 62) k79_62 rfl ?_
        refine q_aload_n (pc := 64) k79_64 rfl ?_
        refine q_getR (pc := 65) k79_65 fg79_26 rfl rfl ?_
        refine q_getR (pc := 68) k79_68 fg79_63 rfl rfl ?_
        refine q_iload_n (pc := 71) k79_71 rfl ?_
        refine q_iload (pc := 72) k79_72 rfl ?_
        refine q_invV (pc := 74) (As := [.int a1, .int a5]) (st := [.int 1, .int a4]) k79_74 lm79_154 ov28 rfl rfl rfl (q_cat rfl) (Nat.le_of_ble_eq_true rfl) hd h ?_
        rintro v M7 ⟨r8, rfl, h⟩
        show q_Ex X d 79 (74 + 3) [some (.ref 0), some (.int a1), some (.int a2), some (.int a3), some (.int a4), some (.int a5), some (.int 1)] [.int r8, .int 1, .int a4] M7 _
        refine q_imul (pc := 77) k79_77 ?_
        refine q_aload_n (pc := 78) k79_78 rfl ?_
        refine q_iload_n (pc := 79) k79_79 rfl ?_
        refine q_iconst (pc := 80) (v := 1) k79_80 (by decide) ?_
        refine q_iadd (pc := 81) k79_81 ?_
        refine q_iload_n (pc := 82) k79_82 rfl ?_
        refine q_iconst (pc := 83) (v := 1) k79_83 (by decide) ?_
        refine q_iload (pc := 84) k79_84 rfl ?_
        refine q_ishl (pc := 86) k79_86 ?_
        refine q_ior (pc := 87) k79_87 ?_
        refine q_invV (pc := 88) (As := [.int (a1 + 1), .int (a2 ||| (1 <<< (a5 &&& 31)))]) (st := [.int (1 * r8), .int a4]) k79_88 lm79_162 ov79 rfl rfl rfl (q_cat rfl) (Nat.le_of_ble_eq_true rfl) hd h ?_
        rintro v M9 ⟨r10, rfl, h⟩
        show q_Ex X d 79 (88 + 3) [some (.ref 0), some (.int a1), some (.int a2), some (.int a3), some (.int a4), some (.int a5), some (.int 1)] [.int r10, .int (1 * r8), .int a4] M9 _
        refine q_imul (pc := 91) k79_91 ?_
        refine q_iadd (pc := 92) k79_92 ?_
        refine q_istore (pc := 93) [some (.ref 0), some (.int a1), some (.int a2), some (.int a3), some (.int (a4 + ((1 * r8) * r10))), some (.int a5), some (.int 1)] k79_93 rfl (by decide) rfl ?_
        refine q_iinc (pc := 95) (v := a5 + 1) [some (.ref 0), some (.int a1), some (.int a2), some (.int a3), some (.int (a4 + ((1 * r8) * r10))), some (.int (a5 + 1)), some (.int 1)] k79_95 rfl rfl rfl (by decide) rfl ?_
        refine q_goto (pc := 98) 24 k79_98 (by decide) ?_
        exact q_forget [some (.ref 0), some (.int a1), some (.int a2), some (.int a3), some (.int (a4 + ((1 * r8) * r10))), some (.int (a5 + 1)), none] (q_subOk (And.intro rfl (And.intro rfl (And.intro rfl (And.intro rfl (And.intro rfl (And.intro rfl (trivial)))))))) h
set_option maxRecDepth 20000 in
theorem vc80 {X : Nat × (Nat → Int32)} {d : Nat} (hd : 0 < d) {M : q_M} {a1 a2 a3 : Int32} {K : Int32 → q_M → Prop} (h : ((a1 = (M 0 16)) → (vp_in a2 3 ∧ (q_Ci X (d - 1) 29 [.ref 11, .int (M 89 (Int32.toNatClampNeg a2)), .int a2, .int a3] M (fun r2 M1 => K r2 M1)))) ∧ ((¬ a1 = (M 0 16)) → (q_Ci X (d - 1) 77 [.ref 0] M (fun r4 M3 => ((a1 < r4) → (q_Cr X (d - 1) 75 [.ref 0] M3 (fun r6 M5 => q_Ci X (d - 1) 1 [.ref 88, .ref r6, .int (M5 10 3), .int 0, .int (a1 + 1)] M5 (fun r8 M7 => vp_in a2 3 ∧ (q_Ci X (d - 1) 29 [.ref 11, .int (M7 89 (Int32.toNatClampNeg a2)), .int a2, .int a3] (q_set M7 0 16 a1) (fun r10 M9 => K r10 M9)))))) ∧ ((¬ a1 < r4) → (K (-9) M3)))))) : q_Ci X d 80 [.ref 0, .int a1, .int a2, .int a3] M K := by
  show q_Ex X d 80 0 [some (.ref 0), some (.int a1), some (.int a2), some (.int a3)] [] M (q_ri K)
  refine q_iload_n (pc := 0) k80_0 rfl ?_
  refine q_aload_n (pc := 1) k80_1 rfl ?_
  refine q_getIv (pc := 2) (v := M 0 16) k80_2 fg80_58 rfl rfl rfl ?_
  refine q_icmp_eq (pc := 5) 47 k80_5 (by decide) (fun g => ?_) (fun g => ?_)
  · replace h := h.1 g
    refine q_aload_n (pc := 47) k80_47 rfl ?_
    refine q_getR (pc := 48) k80_48 fg80_26 rfl rfl ?_
    refine q_getR (pc := 51) k80_51 fg80_63 rfl rfl ?_
    refine q_aload_n (pc := 54) k80_54 rfl ?_
    refine q_getR (pc := 55) k80_55 fg80_90 rfl rfl ?_
    refine q_getR (pc := 58) k80_58 fg80_287 rfl rfl ?_
    refine q_iload_n (pc := 61) k80_61 rfl ?_
    refine q_ialdv (pc := 62) (v := M 89 (Int32.toNatClampNeg a2)) k80_62 rfl h.1 rfl ?_
    replace h := h.2
    refine q_iload_n (pc := 63) k80_63 rfl ?_
    refine q_iload_n (pc := 64) k80_64 rfl ?_
    refine q_invV (pc := 65) (As := [.int (M 89 (Int32.toNatClampNeg a2)), .int a2, .int a3]) (st := []) k80_65 lm80_290 ov29 rfl rfl rfl (q_cat rfl) (Nat.le_of_ble_eq_true rfl) hd h ?_
    rintro v M1 ⟨r2, rfl, h⟩
    show q_Ex X d 80 (65 + 3) [some (.ref 0), some (.int a1), some (.int a2), some (.int a3)] [.int r2] M1 _
    exact q_ireturn (pc := 68) k80_68 rfl ⟨_, rfl, h⟩
  · replace h := h.2 g
    refine q_iload_n (pc := 8) k80_8 rfl ?_
    refine q_aload_n (pc := 9) k80_9 rfl ?_
    refine q_invV (pc := 10) (As := []) (st := [.int a1]) k80_10 lm80_157 ov77 rfl rfl rfl (q_cat rfl) (Nat.le_of_ble_eq_true rfl) hd h ?_
    rintro v M3 ⟨r4, rfl, h⟩
    show q_Ex X d 80 (10 + 3) [some (.ref 0), some (.int a1), some (.int a2), some (.int a3)] [.int r4, .int a1] M3 _
    refine q_icmp_lt (pc := 13) 19 k80_13 (by decide) (fun g => ?_) (fun g => ?_)
    · replace h := h.1 g
      refine q_aload_n (pc := 19) k80_19 rfl ?_
      refine q_getR (pc := 20) k80_20 fg80_90 rfl rfl ?_
      refine q_aload_n (pc := 23) k80_23 rfl ?_
      refine q_invV (pc := 24) (As := []) (st := [.ref 88]) k80_24 lm80_212 ov75 rfl rfl rfl (q_cat rfl) (Nat.le_of_ble_eq_true rfl) hd h ?_
      rintro v M5 ⟨r6, rfl, h⟩
      show q_Ex X d 80 (24 + 3) [some (.ref 0), some (.int a1), some (.int a2), some (.int a3)] [.ref r6, .ref 88] M5 _
      refine q_aload_n (pc := 27) k80_27 rfl ?_
      refine q_getR (pc := 28) k80_28 fg80_26 rfl rfl ?_
      refine q_getIv (pc := 31) (v := M5 10 3) k80_31 fg80_148 rfl rfl rfl ?_
      refine q_iconst (pc := 34) (v := 0) k80_34 (by decide) ?_
      refine q_iload_n (pc := 35) k80_35 rfl ?_
      refine q_iconst (pc := 36) (v := 1) k80_36 (by decide) ?_
      refine q_iadd (pc := 37) k80_37 ?_
      refine q_invV (pc := 38) (As := [.ref r6, .int (M5 10 3), .int 0, .int (a1 + 1)]) (st := []) k80_38 lm80_217 ov1 rfl rfl rfl (q_cat rfl) (Nat.le_of_ble_eq_true rfl) hd h ?_
      rintro v M7 ⟨r8, rfl, h⟩
      show q_Ex X d 80 (38 + 3) [some (.ref 0), some (.int a1), some (.int a2), some (.int a3)] [.int r8] M7 _
      refine q_pop (pc := 41) k80_41 rfl ?_
      refine q_aload_n (pc := 42) k80_42 rfl ?_
      refine q_iload_n (pc := 43) k80_43 rfl ?_
      refine q_putI (pc := 44) k80_44 fp80_58 rfl rfl ?_
      refine q_aload_n (pc := 47) k80_47 rfl ?_
      refine q_getR (pc := 48) k80_48 fg80_26 rfl rfl ?_
      refine q_getR (pc := 51) k80_51 fg80_63 rfl rfl ?_
      refine q_aload_n (pc := 54) k80_54 rfl ?_
      refine q_getR (pc := 55) k80_55 fg80_90 rfl rfl ?_
      refine q_getR (pc := 58) k80_58 fg80_287 rfl rfl ?_
      refine q_iload_n (pc := 61) k80_61 rfl ?_
      refine q_ialdv (pc := 62) (v := M7 89 (Int32.toNatClampNeg a2)) k80_62 rfl h.1 rfl ?_
      replace h := h.2
      refine q_iload_n (pc := 63) k80_63 rfl ?_
      refine q_iload_n (pc := 64) k80_64 rfl ?_
      refine q_invV (pc := 65) (As := [.int (M7 89 (Int32.toNatClampNeg a2)), .int a2, .int a3]) (st := []) k80_65 lm80_290 ov29 rfl rfl rfl (q_cat rfl) (Nat.le_of_ble_eq_true rfl) hd h ?_
      rintro v M9 ⟨r10, rfl, h⟩
      show q_Ex X d 80 (65 + 3) [some (.ref 0), some (.int a1), some (.int a2), some (.int a3)] [.int r10] M9 _
      exact q_ireturn (pc := 68) k80_68 rfl ⟨_, rfl, h⟩
    · replace h := h.2 g
      refine q_bipush (pc := 16) (v := (-9)) k80_16 (by decide) ?_
      exact q_ireturn (pc := 18) k80_18 rfl ⟨_, rfl, h⟩
set_option maxRecDepth 20000 in
theorem vc81 {X : Nat × (Nat → Int32)} {d : Nat} {M : q_M} {K : Int32 → q_M → Prop} (h : q_Ex X d 81 13 [some (.ref 0), some (.int (M 11 4)), some (.int 0), none, none] [] M (q_ri K)) : q_Ci X d 81 [.ref 0] M K := by
  show q_Ex X d 81 0 [some (.ref 0), none, none, none, none] [] M (q_ri K)
  refine q_aload_n (pc := 0) k81_0 rfl ?_
  refine q_getR (pc := 1) k81_1 fg81_26 rfl rfl ?_
  refine q_getR (pc := 4) k81_4 fg81_63 rfl rfl ?_
  refine q_getIv (pc := 7) (v := M 11 4) k81_7 fg81_141 rfl rfl rfl ?_
  refine q_istore_n (pc := 10) [some (.ref 0), some (.int (M 11 4)), none, none, none] k81_10 rfl (by decide) rfl ?_
  refine q_iconst (pc := 11) (v := 0) k81_11 (by decide) ?_
  refine q_istore_n (pc := 12) [some (.ref 0), some (.int (M 11 4)), some (.int 0), none, none] k81_12 rfl (by decide) rfl ?_
  exact h
set_option maxRecDepth 20000 in
theorem vc81_p13 {X : Nat × (Nat → Int32)} {d : Nat} (hd : 0 < d) {M : q_M} {a1 a2 : Int32} {K : Int32 → q_M → Prop} (h : ((a1 ≤ a2) → (K (-1) M)) ∧ ((¬ a1 ≤ a2) → (q_Ci X (d - 1) 8 [.ref 10, .int a2] M (fun r2 M1 => q_Ci X (d - 1) 23 [.ref 11, .int r2] M1 (fun r4 M3 => ((r4 = 0) → (K a2 M3)) ∧ ((¬ r4 = 0) → (vp_in r2 30 ∧ ((((M3 12 (Int32.toNatClampNeg r2)) = 3) → (q_Cr X (d - 1) 75 [.ref 0] M3 (fun r6 M5 => q_CV X (d - 1) 81 296 r6 [.int a2, .int a1, .int (M5 10 3)] M5 (fun r7 M8 => vp_in r2 30 ∧ (((¬ ((r7 >>> ((M8 14 (Int32.toNatClampNeg r2)) &&& 31)) &&& 1) = 0) → (q_Ex X d 81 13 [some (.ref 0), some (.int a1), some (.int (a2 + 1)), none, none] [] M8 (q_ri K))) ∧ ((((r7 >>> ((M8 14 (Int32.toNatClampNeg r2)) &&& 31)) &&& 1) = 0) → (K a2 M8))))))) ∧ ((¬ (M3 12 (Int32.toNatClampNeg r2)) = 3) → (K a2 M3)))))))))) : q_Ex X d 81 13 [some (.ref 0), some (.int a1), some (.int a2), none, none] [] M (q_ri K) := by
  refine q_iload_n (pc := 13) k81_13 rfl ?_
  refine q_iload_n (pc := 14) k81_14 rfl ?_
  refine q_icmp_ge (pc := 15) 105 k81_15 (by decide) (fun g => ?_) (fun g => ?_)
  · replace h := h.1 g
    refine q_iconst (pc := 105) (v := (-1)) k81_105 (by decide) ?_
    exact q_ireturn (pc := 106) k81_106 rfl ⟨_, rfl, h⟩
  · replace h := h.2 g
    refine q_aload_n (pc := 18) k81_18 rfl ?_
    refine q_getR (pc := 19) k81_19 fg81_26 rfl rfl ?_
    refine q_iload_n (pc := 22) k81_22 rfl ?_
    refine q_invV (pc := 23) (As := [.int a2]) (st := []) k81_23 lm81_293 ov8 rfl rfl rfl (q_cat rfl) (Nat.le_of_ble_eq_true rfl) hd h ?_
    rintro v M1 ⟨r2, rfl, h⟩
    show q_Ex X d 81 (23 + 3) [some (.ref 0), some (.int a1), some (.int a2), none, none] [.int r2] M1 _
    refine q_istore_n (pc := 26) [some (.ref 0), some (.int a1), some (.int a2), some (.int r2), none] k81_26 rfl (by decide) rfl ?_
    refine q_aload_n (pc := 27) k81_27 rfl ?_
    refine q_getR (pc := 28) k81_28 fg81_26 rfl rfl ?_
    refine q_getR (pc := 31) k81_31 fg81_63 rfl rfl ?_
    refine q_iload_n (pc := 34) k81_34 rfl ?_
    refine q_invV (pc := 35) (As := [.int r2]) (st := []) k81_35 lm81_121 ov23 rfl rfl rfl (q_cat rfl) (Nat.le_of_ble_eq_true rfl) hd h ?_
    rintro v M3 ⟨r4, rfl, h⟩
    show q_Ex X d 81 (35 + 3) [some (.ref 0), some (.int a1), some (.int a2), some (.int r2), none] [.int r4] M3 _
    refine q_if_eq (pc := 38) 57 k81_38 (by decide) (fun g => ?_) (fun g => ?_)
    · replace h := h.1 g
      refine q_iload_n (pc := 57) k81_57 rfl ?_
      exact q_ireturn (pc := 58) k81_58 rfl ⟨_, rfl, h⟩
    · replace h := h.2 g
      refine q_aload_n (pc := 41) k81_41 rfl ?_
      refine q_getR (pc := 42) k81_42 fg81_26 rfl rfl ?_
      refine q_getR (pc := 45) k81_45 fg81_63 rfl rfl ?_
      refine q_getR (pc := 48) k81_48 fg81_125 rfl rfl ?_
      refine q_iload_n (pc := 51) k81_51 rfl ?_
      refine q_ialdv (pc := 52) (v := M3 12 (Int32.toNatClampNeg r2)) k81_52 rfl h.1 rfl ?_
      replace h := h.2
      refine q_iconst (pc := 53) (v := 3) k81_53 (by decide) ?_
      refine q_icmp_eq (pc := 54) 59 k81_54 (by decide) (fun g => ?_) (fun g => ?_)
      · replace h := h.1 g
        refine q_aload_n (pc := 59) k81_59 rfl ?_
        refine q_invV (pc := 60) (As := []) (st := []) k81_60 lm81_212 ov75 rfl rfl rfl (q_cat rfl) (Nat.le_of_ble_eq_true rfl) hd h ?_
        rintro v M5 ⟨r6, rfl, h⟩
        show q_Ex X d 81 (60 + 3) [some (.ref 0), some (.int a1), some (.int a2), some (.int r2), none] [.ref r6] M5 _
        refine q_iload_n (pc := 63) k81_63 rfl ?_
        refine q_iload_n (pc := 64) k81_64 rfl ?_
        refine q_aload_n (pc := 65) k81_65 rfl ?_
        refine q_getR (pc := 66) k81_66 fg81_26 rfl rfl ?_
        refine q_getIv (pc := 69) (v := M5 10 3) k81_69 fg81_148 rfl rfl rfl ?_
        refine q_invC (pc := 72) (As := [.int a2, .int a1, .int (M5 10 3)]) (st := []) k81_72 rfl (q_cat rfl) (Nat.le_of_ble_eq_true rfl) hd h (fun r7 M8 h => ?_)
        refine q_istore (pc := 75) [some (.ref 0), some (.int a1), some (.int a2), some (.int r2), some (.int r7)] k81_75 rfl (by decide) rfl ?_
        refine q_iload (pc := 77) k81_77 rfl ?_
        refine q_aload_n (pc := 79) k81_79 rfl ?_
        refine q_getR (pc := 80) k81_80 fg81_26 rfl rfl ?_
        refine q_getR (pc := 83) k81_83 fg81_63 rfl rfl ?_
        refine q_getR (pc := 86) k81_86 fg81_131 rfl rfl ?_
        refine q_iload_n (pc := 89) k81_89 rfl ?_
        refine q_ialdv (pc := 90) (v := M8 14 (Int32.toNatClampNeg r2)) k81_90 rfl h.1 rfl ?_
        replace h := h.2
        refine q_ishr (pc := 91) k81_91 ?_
        refine q_iconst (pc := 92) (v := 1) k81_92 (by decide) ?_
        refine q_iand (pc := 93) k81_93 ?_
        refine q_if_ne (pc := 94) 99 k81_94 (by decide) (fun g => ?_) (fun g => ?_)
        · replace h := h.1 g
          refine q_iinc (pc := 99) (v := a2 + 1) [some (.ref 0), some (.int a1), some (.int (a2 + 1)), some (.int r2), some (.int r7)] k81_99 rfl rfl rfl (by decide) rfl ?_
          refine q_goto (pc := 102) 13 k81_102 (by decide) ?_
          exact q_forget [some (.ref 0), some (.int a1), some (.int (a2 + 1)), none, none] (q_subOk (And.intro rfl (And.intro rfl (And.intro rfl (trivial))))) h
        · replace h := h.2 g
          refine q_iload_n (pc := 97) k81_97 rfl ?_
          exact q_ireturn (pc := 98) k81_98 rfl ⟨_, rfl, h⟩
      · replace h := h.2 g
        refine q_iload_n (pc := 57) k81_57 rfl ?_
        exact q_ireturn (pc := 58) k81_58 rfl ⟨_, rfl, h⟩
set_option maxRecDepth 20000 in
theorem vc82 {X : Nat × (Nat → Int32)} {d : Nat} {M : q_M} {a0 a1 : Int32} {K : Int32 → q_M → Prop} (h : ((1 ≤ a0) → (¬ a0 = 0 ∧ (K (((((a1 * 1664525) + 1013904223) &&& 2147483647) / 256) - ((((a1 * 1664525) + 1013904223) &&& 2147483647) / 256) / a0 * a0) M))) ∧ ((¬ 1 ≤ a0) → (K 0 M))) : q_Ci X d 82 [.int a0, .int a1] M K := by
  show q_Ex X d 82 0 [some (.int a0), some (.int a1), none] [] M (q_ri K)
  refine q_iload_n (pc := 0) k82_0 rfl ?_
  refine q_ldcw (pc := 1) (v := 1664525) k82_1 ld82_299 ?_
  refine q_imul (pc := 4) k82_4 ?_
  refine q_ldcw (pc := 5) (v := 1013904223) k82_5 ld82_300 ?_
  refine q_iadd (pc := 8) k82_8 ?_
  refine q_istore_n (pc := 9) [some (.int a0), some (.int a1), some (.int ((a1 * 1664525) + 1013904223))] k82_9 rfl (by decide) rfl ?_
  refine q_iload_n (pc := 10) k82_10 rfl ?_
  refine q_iconst (pc := 11) (v := 1) k82_11 (by decide) ?_
  refine q_icmp_ge (pc := 12) 19 k82_12 (by decide) (fun g => ?_) (fun g => ?_)
  · replace h := h.1 g
    refine q_iload_n (pc := 19) k82_19 rfl ?_
    refine q_ldc (pc := 20) (v := 2147483647) k82_20 ld82_216 ?_
    refine q_iand (pc := 22) k82_22 ?_
    refine q_sipush (pc := 23) (v := 256) k82_23 (by decide) ?_
    refine q_idiv (pc := 26) k82_26 (by decide) ?_
    refine q_iload_n (pc := 27) k82_27 rfl ?_
    refine q_irem (pc := 28) k82_28 h.1 ?_
    replace h := h.2
    exact q_ireturn (pc := 29) k82_29 rfl ⟨_, rfl, h⟩
  · replace h := h.2 g
    refine q_iconst (pc := 15) (v := 0) k82_15 (by decide) ?_
    refine q_goto (pc := 16) 29 k82_16 (by decide) ?_
    exact q_ireturn (pc := 29) k82_29 rfl ⟨_, rfl, h⟩
set_option maxRecDepth 20000 in
theorem vc83 {X : Nat × (Nat → Int32)} {d : Nat} {M : q_M} {a0 a1 : Int32} {K : Int32 → q_M → Prop} (h : q_Ex X d 83 7 [none, none, some (.int a0), some (.int a1), some (.int 0), none] [] M (q_ri K)) : q_Ci X d 83 [.int a0, .int a1] M K := by
  show q_Ex X d 83 0 [some (.int a0), some (.int a1), none, none, none, none] [] M (q_ri K)
  refine q_iload_n (pc := 0) k83_0 rfl ?_
  refine q_istore_n (pc := 1) [some (.int a0), some (.int a1), some (.int a0), none, none, none] k83_1 rfl (by decide) rfl ?_
  refine q_iload_n (pc := 2) k83_2 rfl ?_
  refine q_istore_n (pc := 3) [some (.int a0), some (.int a1), some (.int a0), some (.int a1), none, none] k83_3 rfl (by decide) rfl ?_
  refine q_iconst (pc := 4) (v := 0) k83_4 (by decide) ?_
  refine q_istore (pc := 5) [some (.int a0), some (.int a1), some (.int a0), some (.int a1), some (.int 0), none] k83_5 rfl (by decide) rfl ?_
  exact q_forget [none, none, some (.int a0), some (.int a1), some (.int 0), none] (q_subOk (And.intro rfl (And.intro rfl (And.intro rfl (trivial))))) h
set_option maxRecDepth 20000 in
theorem vc83_p7 {X : Nat × (Nat → Int32)} {d : Nat} (hd : 0 < d) {M : q_M} {a2 a3 a4 : Int32} {K : Int32 → q_M → Prop} (h : ((64 ≤ a4) → (K (if a2 < 1 then 1 else a2) M)) ∧ ((¬ 64 ≤ a4) → (((a3 ≤ 0) → (K (if a2 < 1 then 1 else a2) M)) ∧ ((¬ a3 ≤ 0) → (¬ a3 = 0 ∧ (q_Ex X d 83 7 [none, none, some (.int a3), some (.int (a2 - a2 / a3 * a3)), some (.int (a4 + 1)), none] [] M (q_ri K))))))) : q_Ex X d 83 7 [none, none, some (.int a2), some (.int a3), some (.int a4), none] [] M (q_ri K) := by
  refine q_iload (pc := 7) k83_7 rfl ?_
  refine q_bipush (pc := 9) (v := 64) k83_9 (by decide) ?_
  refine q_icmp_ge (pc := 11) 34 k83_11 (by decide) (fun g => ?_) (fun g => ?_)
  · replace h := h.1 g
    refine q_iload_n (pc := 34) k83_34 rfl ?_
    refine q_iconst (pc := 35) (v := 1) k83_35 (by decide) ?_
    refine q_mmax (pc := 36) k83_36 lx83_301 oc_max (Nat.le_of_ble_eq_true rfl) ?_
    exact q_ireturn (pc := 39) k83_39 rfl ⟨_, rfl, h⟩
  · replace h := h.2 g
    refine q_iload_n (pc := 14) k83_14 rfl ?_
    refine q_if_le (pc := 15) 34 k83_15 (by decide) (fun g => ?_) (fun g => ?_)
    · replace h := h.1 g
      refine q_iload_n (pc := 34) k83_34 rfl ?_
      refine q_iconst (pc := 35) (v := 1) k83_35 (by decide) ?_
      refine q_mmax (pc := 36) k83_36 lx83_301 oc_max (Nat.le_of_ble_eq_true rfl) ?_
      exact q_ireturn (pc := 39) k83_39 rfl ⟨_, rfl, h⟩
    · replace h := h.2 g
      refine q_iload_n (pc := 18) k83_18 rfl ?_
      refine q_iload_n (pc := 19) k83_19 rfl ?_
      refine q_irem (pc := 20) k83_20 h.1 ?_
      replace h := h.2
      refine q_istore (pc := 21) [none, none, some (.int a2), some (.int a3), some (.int a4), some (.int (a2 - a2 / a3 * a3))] k83_21 rfl (by decide) rfl ?_
      refine q_iload_n (pc := 23) k83_23 rfl ?_
      refine q_istore_n (pc := 24) [none, none, some (.int a3), some (.int a3), some (.int a4), some (.int (a2 - a2 / a3 * a3))] k83_24 rfl (by decide) rfl ?_
      refine q_iload (pc := 25) k83_25 rfl ?_
      refine q_istore_n (pc := 27) [none, none, some (.int a3), some (.int (a2 - a2 / a3 * a3)), some (.int a4), some (.int (a2 - a2 / a3 * a3))] k83_27 rfl (by decide) rfl ?_
      refine q_iinc (pc := 28) (v := a4 + 1) [none, none, some (.int a3), some (.int (a2 - a2 / a3 * a3)), some (.int (a4 + 1)), some (.int (a2 - a2 / a3 * a3))] k83_28 rfl rfl rfl (by decide) rfl ?_
      refine q_goto (pc := 31) 7 k83_31 (by decide) ?_
      exact q_forget [none, none, some (.int a3), some (.int (a2 - a2 / a3 * a3)), some (.int (a4 + 1)), none] (q_subOk (And.intro rfl (And.intro rfl (And.intro rfl (trivial))))) h
set_option maxRecDepth 20000 in
theorem vc84 {X : Nat × (Nat → Int32)} {d : Nat} {M : q_M} {a0 a1 a2 : Int32} {K : Int32 → q_M → Prop} (h : q_Ex X d 84 8 [some (.int a0), some (.int a1), some (.int a2), some (.long 1), none, some (.long 1), none, some (.int 1), none] [] M (q_ri K)) : q_Ci X d 84 [.int a0, .int a1, .int a2] M K := by
  show q_Ex X d 84 0 [some (.int a0), some (.int a1), some (.int a2), none, none, none, none, none, none] [] M (q_ri K)
  refine q_lconst (pc := 0) (v := 1) k84_0 (by decide) ?_
  refine q_lstore_n (pc := 1) [some (.int a0), some (.int a1), some (.int a2), some (.long 1), none, none, none, none, none] k84_1 rfl (by decide) rfl ?_
  refine q_lconst (pc := 2) (v := 1) k84_2 (by decide) ?_
  refine q_lstore (pc := 3) [some (.int a0), some (.int a1), some (.int a2), some (.long 1), none, some (.long 1), none, none, none] k84_3 rfl (by decide) rfl ?_
  refine q_iconst (pc := 5) (v := 1) k84_5 (by decide) ?_
  refine q_istore (pc := 6) [some (.int a0), some (.int a1), some (.int a2), some (.long 1), none, some (.long 1), none, some (.int 1), none] k84_6 rfl (by decide) rfl ?_
  exact h
set_option maxRecDepth 20000 in
theorem vc84_p8 {X : Nat × (Nat → Int32)} {d : Nat} {M : q_M} {a0 a1 a2 a7 : Int32} {a3 a5 : Int64} {K : Int32 → q_M → Prop} (h : ((a0 < a7) → (((0 ≤ (lg_cmp a5 1)) → (¬ a5 = 0 ∧ (K (Int64.toInt32 (a3 / a5)) M))) ∧ ((¬ 0 ≤ (lg_cmp a5 1)) → (K 0 M)))) ∧ ((¬ a0 < a7) → (q_Ex X d 84 17 [some (.int a0), some (.int a1), some (.int a2), some (.long a3), none, some (.long a5), none, some (.int a7), some (.int 1)] [] M (q_ri K)))) : q_Ex X d 84 8 [some (.int a0), some (.int a1), some (.int a2), some (.long a3), none, some (.long a5), none, some (.int a7), none] [] M (q_ri K) := by
  refine q_iload (pc := 8) k84_8 rfl ?_
  refine q_iload_n (pc := 10) k84_10 rfl ?_
  refine q_icmp_gt (pc := 11) 61 k84_11 (by decide) (fun g => ?_) (fun g => ?_)
  · replace h := h.1 g
    refine q_lload (pc := 61) k84_61 rfl ?_
    refine q_lconst (pc := 63) (v := 1) k84_63 (by decide) ?_
    refine q_lcmp (pc := 64) k84_64 ?_
    refine q_if_ge (pc := 65) 72 k84_65 (by decide) (fun g => ?_) (fun g => ?_)
    · replace h := h.1 g
      refine q_lload_n (pc := 72) k84_72 rfl ?_
      refine q_lload (pc := 73) k84_73 rfl ?_
      refine q_ldiv (pc := 75) k84_75 h.1 ?_
      replace h := h.2
      refine q_l2i (pc := 76) k84_76 ?_
      exact q_ireturn (pc := 77) k84_77 rfl ⟨_, rfl, h⟩
    · replace h := h.2 g
      refine q_iconst (pc := 68) (v := 0) k84_68 (by decide) ?_
      refine q_goto (pc := 69) 77 k84_69 (by decide) ?_
      exact q_ireturn (pc := 77) k84_77 rfl ⟨_, rfl, h⟩
  · replace h := h.2 g
    refine q_iconst (pc := 14) (v := 1) k84_14 (by decide) ?_
    refine q_istore (pc := 15) [some (.int a0), some (.int a1), some (.int a2), some (.long a3), none, some (.long a5), none, some (.int a7), some (.int 1)] k84_15 rfl (by decide) rfl ?_
    exact h
set_option maxRecDepth 20000 in
theorem vc84_p17 {X : Nat × (Nat → Int32)} {d : Nat} {M : q_M} {a0 a1 a2 a7 a8 : Int32} {a3 a5 : Int64} {K : Int32 → q_M → Prop} (h : ((a1 < a8) → (q_Ex X d 84 8 [some (.int a0), some (.int a1), some (.int a2), some (.long a3), none, some (.long a5), none, some (.int (a7 + 1)), none] [] M (q_ri K))) ∧ ((¬ a1 < a8) → (q_Ex X d 84 17 [some (.int a0), some (.int a1), some (.int a2), some (.long (a3 * (Int32.toInt64 (((a7 + a8) + a2) - 1)))), none, some (.long (a5 * (Int32.toInt64 ((a7 + a8) - 1)))), none, some (.int a7), some (.int (a8 + 1))] [] M (q_ri K)))) : q_Ex X d 84 17 [some (.int a0), some (.int a1), some (.int a2), some (.long a3), none, some (.long a5), none, some (.int a7), some (.int a8)] [] M (q_ri K) := by
  refine q_iload (pc := 17) k84_17 rfl ?_
  refine q_iload_n (pc := 19) k84_19 rfl ?_
  refine q_icmp_gt (pc := 20) 55 k84_20 (by decide) (fun g => ?_) (fun g => ?_)
  · replace h := h.1 g
    refine q_iinc (pc := 55) (v := a7 + 1) [some (.int a0), some (.int a1), some (.int a2), some (.long a3), none, some (.long a5), none, some (.int (a7 + 1)), some (.int a8)] k84_55 rfl rfl rfl (by decide) rfl ?_
    refine q_goto (pc := 58) 8 k84_58 (by decide) ?_
    exact q_forget [some (.int a0), some (.int a1), some (.int a2), some (.long a3), none, some (.long a5), none, some (.int (a7 + 1)), none] (q_subOk (And.intro rfl (And.intro rfl (And.intro rfl (And.intro rfl (And.intro rfl (And.intro rfl (trivial)))))))) h
  · replace h := h.2 g
    refine q_lload_n (pc := 23) k84_23 rfl ?_
    refine q_iload (pc := 24) k84_24 rfl ?_
    refine q_iload (pc := 26) k84_26 rfl ?_
    refine q_iadd (pc := 28) k84_28 ?_
    refine q_iload_n (pc := 29) k84_29 rfl ?_
    refine q_iadd (pc := 30) k84_30 ?_
    refine q_iconst (pc := 31) (v := 1) k84_31 (by decide) ?_
    refine q_isub (pc := 32) k84_32 ?_
    refine q_i2l (pc := 33) k84_33 ?_
    refine q_lmul (pc := 34) k84_34 ?_
    refine q_lstore_n (pc := 35) [some (.int a0), some (.int a1), some (.int a2), some (.long (a3 * (Int32.toInt64 (((a7 + a8) + a2) - 1)))), none, some (.long a5), none, some (.int a7), some (.int a8)] k84_35 rfl (by decide) rfl ?_
    refine q_lload (pc := 36) k84_36 rfl ?_
    refine q_iload (pc := 38) k84_38 rfl ?_
    refine q_iload (pc := 40) k84_40 rfl ?_
    refine q_iadd (pc := 42) k84_42 ?_
    refine q_iconst (pc := 43) (v := 1) k84_43 (by decide) ?_
    refine q_isub (pc := 44) k84_44 ?_
    refine q_i2l (pc := 45) k84_45 ?_
    refine q_lmul (pc := 46) k84_46 ?_
    refine q_lstore (pc := 47) [some (.int a0), some (.int a1), some (.int a2), some (.long (a3 * (Int32.toInt64 (((a7 + a8) + a2) - 1)))), none, some (.long (a5 * (Int32.toInt64 ((a7 + a8) - 1)))), none, some (.int a7), some (.int a8)] k84_47 rfl (by decide) rfl ?_
    refine q_iinc (pc := 49) (v := a8 + 1) [some (.int a0), some (.int a1), some (.int a2), some (.long (a3 * (Int32.toInt64 (((a7 + a8) + a2) - 1)))), none, some (.long (a5 * (Int32.toInt64 ((a7 + a8) - 1)))), none, some (.int a7), some (.int (a8 + 1))] k84_49 rfl rfl rfl (by decide) rfl ?_
    refine q_goto (pc := 52) 17 k84_52 (by decide) ?_
    exact h
set_option maxRecDepth 20000 in
theorem vc85 {X : Nat × (Nat → Int32)} {d : Nat} {M : q_M} {a0 : Int32} {K : Int32 → q_M → Prop} (h : ((a0 < 1) → (K 0 M)) ∧ ((¬ a0 < 1) → (((a0 ≤ 3) → (vp_in a0 5 ∧ (K ((q_rc X 1).2 (Int32.toNatClampNeg a0)) M))) ∧ ((¬ a0 ≤ 3) → (K 0 M))))) : q_Ci X d 85 [.int a0] M K := by
  show q_Ex X d 85 0 [some (.int a0)] [] M (q_ri K)
  refine q_iload_n (pc := 0) k85_0 rfl ?_
  refine q_iconst (pc := 1) (v := 1) k85_1 (by decide) ?_
  refine q_icmp_lt (pc := 2) 10 k85_2 (by decide) (fun g => ?_) (fun g => ?_)
  · replace h := h.1 g
    refine q_iconst (pc := 10) (v := 0) k85_10 (by decide) ?_
    refine q_goto (pc := 11) 19 k85_11 (by decide) ?_
    exact q_ireturn (pc := 19) k85_19 rfl ⟨_, rfl, h⟩
  · replace h := h.2 g
    refine q_iload_n (pc := 5) k85_5 rfl ?_
    refine q_iconst (pc := 6) (v := 3) k85_6 (by decide) ?_
    refine q_icmp_le (pc := 7) 14 k85_7 (by decide) (fun g => ?_) (fun g => ?_)
    · replace h := h.1 g
      refine q_gets (pc := 14) k85_14 (j := 1) (by decide) fs85_306 ?_
      refine q_iload_n (pc := 17) k85_17 rfl ?_
      refine q_raldv (pc := 18) (j := 1) (v := (q_rc X 1).2 (Int32.toNatClampNeg a0)) k85_18 (by decide) h.1 rfl ?_
      replace h := h.2
      exact q_ireturn (pc := 19) k85_19 rfl ⟨_, rfl, h⟩
    · replace h := h.2 g
      refine q_iconst (pc := 10) (v := 0) k85_10 (by decide) ?_
      refine q_goto (pc := 11) 19 k85_11 (by decide) ?_
      exact q_ireturn (pc := 19) k85_19 rfl ⟨_, rfl, h⟩
set_option maxRecDepth 20000 in
theorem vc86 {X : Nat × (Nat → Int32)} {d : Nat} {M : q_M} {a0 : Int32} {K : Int32 → q_M → Prop} (h : ((a0 < 1) → (K 0 M)) ∧ ((¬ a0 < 1) → (((a0 ≤ 3) → (vp_in (a0 + 1) 5 ∧ (K ((q_rc X 1).2 (Int32.toNatClampNeg (a0 + 1))) M))) ∧ ((¬ a0 ≤ 3) → (K 0 M))))) : q_Ci X d 86 [.int a0] M K := by
  show q_Ex X d 86 0 [some (.int a0)] [] M (q_ri K)
  refine q_iload_n (pc := 0) k86_0 rfl ?_
  refine q_iconst (pc := 1) (v := 1) k86_1 (by decide) ?_
  refine q_icmp_lt (pc := 2) 10 k86_2 (by decide) (fun g => ?_) (fun g => ?_)
  · replace h := h.1 g
    refine q_iconst (pc := 10) (v := 0) k86_10 (by decide) ?_
    refine q_goto (pc := 11) 21 k86_11 (by decide) ?_
    exact q_ireturn (pc := 21) k86_21 rfl ⟨_, rfl, h⟩
  · replace h := h.2 g
    refine q_iload_n (pc := 5) k86_5 rfl ?_
    refine q_iconst (pc := 6) (v := 3) k86_6 (by decide) ?_
    refine q_icmp_le (pc := 7) 14 k86_7 (by decide) (fun g => ?_) (fun g => ?_)
    · replace h := h.1 g
      refine q_gets (pc := 14) k86_14 (j := 1) (by decide) fs86_306 ?_
      refine q_iload_n (pc := 17) k86_17 rfl ?_
      refine q_iconst (pc := 18) (v := 1) k86_18 (by decide) ?_
      refine q_iadd (pc := 19) k86_19 ?_
      refine q_raldv (pc := 20) (j := 1) (v := (q_rc X 1).2 (Int32.toNatClampNeg (a0 + 1))) k86_20 (by decide) h.1 rfl ?_
      replace h := h.2
      exact q_ireturn (pc := 21) k86_21 rfl ⟨_, rfl, h⟩
    · replace h := h.2 g
      refine q_iconst (pc := 10) (v := 0) k86_10 (by decide) ?_
      refine q_goto (pc := 11) 21 k86_11 (by decide) ?_
      exact q_ireturn (pc := 21) k86_21 rfl ⟨_, rfl, h⟩
set_option maxRecDepth 20000 in
theorem vc87 {X : Nat × (Nat → Int32)} {d : Nat} (hd : 0 < d) {M : q_M} {a0 a1 : Int32} {K : Int32 → q_M → Prop} (h : q_Ci X (d - 1) 85 [.int a1] M (fun r2 M1 => q_Ex X d 87 5 [some (.int a0), some (.int a1), some (.int r2)] [] M1 (q_ri K))) : q_Ci X d 87 [.int a0, .int a1] M K := by
  show q_Ex X d 87 0 [some (.int a0), some (.int a1), none] [] M (q_ri K)
  refine q_iload_n (pc := 0) k87_0 rfl ?_
  refine q_invS (pc := 1) (As := [.int a1]) (st := []) k87_1 lm87_165 os85 rfl rfl (q_cat rfl) (Nat.le_of_ble_eq_true rfl) hd h ?_
  rintro v M1 ⟨r2, rfl, h⟩
  show q_Ex X d 87 (1 + 3) [some (.int a0), some (.int a1), none] [.int r2] M1 _
  refine q_istore_n (pc := 4) [some (.int a0), some (.int a1), some (.int r2)] k87_4 rfl (by decide) rfl ?_
  exact h
set_option maxRecDepth 20000 in
theorem vc87_p5 {X : Nat × (Nat → Int32)} {d : Nat} (hd : 0 < d) {M : q_M} {a0 a1 a2 : Int32} {K : Int32 → q_M → Prop} (h : q_Ci X (d - 1) 86 [.int a1] M (fun r2 M1 => ((r2 ≤ a2) → (K (-1) M1)) ∧ ((¬ r2 ≤ a2) → (vp_in a2 9 ∧ (((¬ ((q_rc X 0).2 (Int32.toNatClampNeg a2)) = a0) → (q_Ex X d 87 5 [some (.int a0), some (.int a1), some (.int (a2 + 1))] [] M1 (q_ri K))) ∧ ((((q_rc X 0).2 (Int32.toNatClampNeg a2)) = a0) → (K a2 M1))))))) : q_Ex X d 87 5 [some (.int a0), some (.int a1), some (.int a2)] [] M (q_ri K) := by
  refine q_iload_n (pc := 5) k87_5 rfl ?_
  refine q_iload_n (pc := 6) k87_6 rfl ?_
  refine q_invS (pc := 7) (As := [.int a1]) (st := [.int a2]) k87_7 lm87_168 os86 rfl rfl (q_cat rfl) (Nat.le_of_ble_eq_true rfl) hd h ?_
  rintro v M1 ⟨r2, rfl, h⟩
  show q_Ex X d 87 (7 + 3) [some (.int a0), some (.int a1), some (.int a2)] [.int r2, .int a2] M1 _
  refine q_icmp_ge (pc := 10) 30 k87_10 (by decide) (fun g => ?_) (fun g => ?_)
  · replace h := h.1 g
    refine q_iconst (pc := 30) (v := (-1)) k87_30 (by decide) ?_
    exact q_ireturn (pc := 31) k87_31 rfl ⟨_, rfl, h⟩
  · replace h := h.2 g
    refine q_gets (pc := 13) k87_13 (j := 0) (by decide) fs87_273 ?_
    refine q_iload_n (pc := 16) k87_16 rfl ?_
    refine q_raldv (pc := 17) (j := 0) (v := (q_rc X 0).2 (Int32.toNatClampNeg a2)) k87_17 (by decide) h.1 rfl ?_
    replace h := h.2
    refine q_iload_n (pc := 18) k87_18 rfl ?_
    refine q_icmp_ne (pc := 19) 24 k87_19 (by decide) (fun g => ?_) (fun g => ?_)
    · replace h := h.1 g
      refine q_iinc (pc := 24) (v := a2 + 1) [some (.int a0), some (.int a1), some (.int (a2 + 1))] k87_24 rfl rfl rfl (by decide) rfl ?_
      refine q_goto (pc := 27) 5 k87_27 (by decide) ?_
      exact h
    · replace h := h.2 g
      refine q_iload_n (pc := 22) k87_22 rfl ?_
      exact q_ireturn (pc := 23) k87_23 rfl ⟨_, rfl, h⟩
set_option maxRecDepth 20000 in
theorem vc88 {X : Nat × (Nat → Int32)} {d : Nat} (hd : 0 < d) {M : q_M} {a0 : Int32} {K : Int32 → q_M → Prop} (h : q_Ci X (d - 1) 85 [.int a0] M (fun r2 M1 => vp_in r2 9 ∧ (K ((q_rc X 0).2 (Int32.toNatClampNeg r2)) M1))) : q_Ci X d 88 [.int a0] M K := by
  show q_Ex X d 88 0 [some (.int a0)] [] M (q_ri K)
  refine q_gets (pc := 0) k88_0 (j := 0) (by decide) fs88_273 ?_
  refine q_iload_n (pc := 3) k88_3 rfl ?_
  refine q_invS (pc := 4) (As := [.int a0]) (st := [.ref 1000]) k88_4 lm88_165 os85 rfl rfl (q_cat rfl) (Nat.le_of_ble_eq_true rfl) hd h ?_
  rintro v M1 ⟨r2, rfl, h⟩
  show q_Ex X d 88 (4 + 3) [some (.int a0)] [.int r2, .ref 1000] M1 _
  refine q_raldv (pc := 7) (j := 0) (v := (q_rc X 0).2 (Int32.toNatClampNeg r2)) k88_7 (by decide) h.1 rfl ?_
  replace h := h.2
  exact q_ireturn (pc := 8) k88_8 rfl ⟨_, rfl, h⟩
set_option maxRecDepth 20000 in
theorem vc89 {X : Nat × (Nat → Int32)} {d : Nat} {M : q_M} {a0 a1 : Int32} {K : Int32 → q_M → Prop} (h : ((a1 < 0) → (K 0 M)) ∧ ((¬ a1 < 0) → (((a1 < 3) → (vp_in a1 3 ∧ (¬ ((q_rc X 2).2 (Int32.toNatClampNeg a1)) = 0 ∧ (K ((a0 / ((q_rc X 2).2 (Int32.toNatClampNeg a1))) - (a0 / ((q_rc X 2).2 (Int32.toNatClampNeg a1))) / 10 * 10) M)))) ∧ ((¬ a1 < 3) → (K 0 M))))) : q_Ci X d 89 [.int a0, .int a1] M K := by
  show q_Ex X d 89 0 [some (.int a0), some (.int a1)] [] M (q_ri K)
  refine q_iload_n (pc := 0) k89_0 rfl ?_
  refine q_if_lt (pc := 1) 12 k89_1 (by decide) (fun g => ?_) (fun g => ?_)
  · replace h := h.1 g
    refine q_iconst (pc := 12) (v := 0) k89_12 (by decide) ?_
    refine q_goto (pc := 13) 26 k89_13 (by decide) ?_
    exact q_ireturn (pc := 26) k89_26 rfl ⟨_, rfl, h⟩
  · replace h := h.2 g
    refine q_iload_n (pc := 4) k89_4 rfl ?_
    refine q_gets (pc := 5) k89_5 (j := 2) (by decide) fs89_309 ?_
    refine q_rlen (pc := 8) (j := 2) (v := 3) k89_8 (by decide) rfl ?_
    refine q_icmp_lt (pc := 9) 16 k89_9 (by decide) (fun g => ?_) (fun g => ?_)
    · replace h := h.1 g
      refine q_iload_n (pc := 16) k89_16 rfl ?_
      refine q_gets (pc := 17) k89_17 (j := 2) (by decide) fs89_309 ?_
      refine q_iload_n (pc := 20) k89_20 rfl ?_
      refine q_raldv (pc := 21) (j := 2) (v := (q_rc X 2).2 (Int32.toNatClampNeg a1)) k89_21 (by decide) h.1 rfl ?_
      replace h := h.2
      refine q_idiv (pc := 22) k89_22 h.1 ?_
      replace h := h.2
      refine q_bipush (pc := 23) (v := 10) k89_23 (by decide) ?_
      refine q_irem (pc := 25) k89_25 (by decide) ?_
      exact q_ireturn (pc := 26) k89_26 rfl ⟨_, rfl, h⟩
    · replace h := h.2 g
      refine q_iconst (pc := 12) (v := 0) k89_12 (by decide) ?_
      refine q_goto (pc := 13) 26 k89_13 (by decide) ?_
      exact q_ireturn (pc := 26) k89_26 rfl ⟨_, rfl, h⟩
set_option maxRecDepth 20000 in
theorem vc90 {X : Nat × (Nat → Int32)} {d : Nat} {M : q_M} {a0 a1 : Int32} {K : Int32 → q_M → Prop} (h : ((a1 < 0) → (K 0 M)) ∧ ((¬ a1 < 0) → (((30 ≤ a1) → (K 0 M)) ∧ ((¬ 30 ≤ a1) → (((((a0 >>> (a1 &&& 31)) &&& 1) = 0) → (K 0 M)) ∧ ((¬ ((a0 >>> (a1 &&& 31)) &&& 1) = 0) → (K 1 M))))))) : q_Ci X d 90 [.int a0, .int a1] M K := by
  show q_Ex X d 90 0 [some (.int a0), some (.int a1)] [] M (q_ri K)
  refine q_iload_n (pc := 0) k90_0 rfl ?_
  refine q_if_lt (pc := 1) 22 k90_1 (by decide) (fun g => ?_) (fun g => ?_)
  · replace h := h.1 g
    refine q_iconst (pc := 22) (v := 0) k90_22 (by decide) ?_
    exact q_zreturn (pc := 23) k90_23 rfl (by decide) ⟨_, rfl, h⟩
  · replace h := h.2 g
    refine q_iload_n (pc := 4) k90_4 rfl ?_
    refine q_bipush (pc := 5) (v := 30) k90_5 (by decide) ?_
    refine q_icmp_ge (pc := 7) 22 k90_7 (by decide) (fun g => ?_) (fun g => ?_)
    · replace h := h.1 g
      refine q_iconst (pc := 22) (v := 0) k90_22 (by decide) ?_
      exact q_zreturn (pc := 23) k90_23 rfl (by decide) ⟨_, rfl, h⟩
    · replace h := h.2 g
      refine q_iload_n (pc := 10) k90_10 rfl ?_
      refine q_iload_n (pc := 11) k90_11 rfl ?_
      refine q_ishr (pc := 12) k90_12 ?_
      refine q_iconst (pc := 13) (v := 1) k90_13 (by decide) ?_
      refine q_iand (pc := 14) k90_14 ?_
      refine q_if_eq (pc := 15) 22 k90_15 (by decide) (fun g => ?_) (fun g => ?_)
      · replace h := h.1 g
        refine q_iconst (pc := 22) (v := 0) k90_22 (by decide) ?_
        exact q_zreturn (pc := 23) k90_23 rfl (by decide) ⟨_, rfl, h⟩
      · replace h := h.2 g
        refine q_iconst (pc := 18) (v := 1) k90_18 (by decide) ?_
        refine q_goto (pc := 19) 23 k90_19 (by decide) ?_
        exact q_zreturn (pc := 23) k90_23 rfl (by decide) ⟨_, rfl, h⟩
set_option maxRecDepth 20000 in
theorem vc91 {X : Nat × (Nat → Int32)} {d : Nat} {M : q_M} {a1 : Int32} {K : Int32 → q_M → Prop} (h : vp_in (-a1) 7 ∧ (vp_in (-a1) 7 ∧ (K a1 (q_set M 98 (Int32.toNatClampNeg (-a1)) ((M 98 (Int32.toNatClampNeg (-a1))) + 1))))) : q_Ci X d 91 [.ref 97, .int a1] M K := by
  show q_Ex X d 91 0 [some (.ref 97), some (.int a1)] [] M (q_ri K)
  refine q_aload_n (pc := 0) k91_0 rfl ?_
  refine q_getR (pc := 1) k91_1 fg91_7 rfl rfl ?_
  refine q_iload_n (pc := 4) k91_4 rfl ?_
  refine q_ineg (pc := 5) k91_5 ?_
  refine q_dup2 (pc := 6) k91_6 rfl rfl ?_
  refine q_ialdv (pc := 7) (v := M 98 (Int32.toNatClampNeg (-a1))) k91_7 rfl h.1 rfl ?_
  replace h := h.2
  refine q_iconst (pc := 8) (v := 1) k91_8 (by decide) ?_
  refine q_iadd (pc := 9) k91_9 ?_
  refine q_iastv (pc := 10) (k := (Int32.toNatClampNeg (-a1))) k91_10 rfl h.1 rfl ?_
  replace h := h.2
  refine q_iload_n (pc := 11) k91_11 rfl ?_
  exact q_ireturn (pc := 12) k91_12 rfl ⟨_, rfl, h⟩
set_option maxRecDepth 20000 in
theorem vc92 {X : Nat × (Nat → Int32)} {d : Nat} {M : q_M} {a0 a1 : Int32} {K : Int32 → q_M → Prop} (h : ((a0 < 0) → (K 0 M)) ∧ ((¬ a0 < 0) → (((a1 ≤ a0) → (K 0 M)) ∧ ((¬ a1 ≤ a0) → (K 1 M))))) : q_Ci X d 92 [.int a0, .int a1] M K := by
  show q_Ex X d 92 0 [some (.int a0), some (.int a1)] [] M (q_ri K)
  refine q_iload_n (pc := 0) k92_0 rfl ?_
  refine q_if_lt (pc := 1) 13 k92_1 (by decide) (fun g => ?_) (fun g => ?_)
  · replace h := h.1 g
    refine q_iconst (pc := 13) (v := 0) k92_13 (by decide) ?_
    exact q_zreturn (pc := 14) k92_14 rfl (by decide) ⟨_, rfl, h⟩
  · replace h := h.2 g
    refine q_iload_n (pc := 4) k92_4 rfl ?_
    refine q_iload_n (pc := 5) k92_5 rfl ?_
    refine q_icmp_ge (pc := 6) 13 k92_6 (by decide) (fun g => ?_) (fun g => ?_)
    · replace h := h.1 g
      refine q_iconst (pc := 13) (v := 0) k92_13 (by decide) ?_
      exact q_zreturn (pc := 14) k92_14 rfl (by decide) ⟨_, rfl, h⟩
    · replace h := h.2 g
      refine q_iconst (pc := 9) (v := 1) k92_9 (by decide) ?_
      refine q_goto (pc := 10) 14 k92_10 (by decide) ?_
      exact q_zreturn (pc := 14) k92_14 rfl (by decide) ⟨_, rfl, h⟩
set_option maxRecDepth 20000 in
theorem vc93 {X : Nat × (Nat → Int32)} {d : Nat} {M : q_M} {a0 a1 a2 : Int32} {K : Int32 → q_M → Prop} (h : ((a1 ≤ a0) → (((a0 ≤ a2) → (K 0 M)) ∧ ((¬ a0 ≤ a2) → (K (-6) M)))) ∧ ((¬ a1 ≤ a0) → (K (-4) M))) : q_Ci X d 93 [.int a0, .int a1, .int a2] M K := by
  show q_Ex X d 93 0 [some (.int a0), some (.int a1), some (.int a2)] [] M (q_ri K)
  refine q_iload_n (pc := 0) k93_0 rfl ?_
  refine q_iload_n (pc := 1) k93_1 rfl ?_
  refine q_icmp_ge (pc := 2) 10 k93_2 (by decide) (fun g => ?_) (fun g => ?_)
  · replace h := h.1 g
    refine q_iload_n (pc := 10) k93_10 rfl ?_
    refine q_iload_n (pc := 11) k93_11 rfl ?_
    refine q_icmp_le (pc := 12) 20 k93_12 (by decide) (fun g => ?_) (fun g => ?_)
    · replace h := h.1 g
      refine q_iconst (pc := 20) (v := 0) k93_20 (by decide) ?_
      exact q_ireturn (pc := 21) k93_21 rfl ⟨_, rfl, h⟩
    · replace h := h.2 g
      refine q_bipush (pc := 15) (v := (-6)) k93_15 (by decide) ?_
      refine q_goto (pc := 17) 21 k93_17 (by decide) ?_
      exact q_ireturn (pc := 21) k93_21 rfl ⟨_, rfl, h⟩
  · replace h := h.2 g
    refine q_bipush (pc := 5) (v := (-4)) k93_5 (by decide) ?_
    refine q_goto (pc := 7) 21 k93_7 (by decide) ?_
    exact q_ireturn (pc := 21) k93_21 rfl ⟨_, rfl, h⟩
set_option maxRecDepth 20000 in
theorem vc95 {X : Nat × (Nat → Int32)} {d : Nat} {M : q_M} {K : Int32 → q_M → Prop} (h : K ((M 99 0) * (M 99 1)) M) : q_Ci X d 95 [.ref 97] M K := by
  show q_Ex X d 95 0 [some (.ref 97)] [] M (q_ri K)
  refine q_aload_n (pc := 0) k95_0 rfl ?_
  refine q_getR (pc := 1) k95_1 fg95_13 rfl rfl ?_
  refine q_iconst (pc := 4) (v := 0) k95_4 (by decide) ?_
  refine q_ialdv (pc := 5) (v := M 99 0) k95_5 rfl (by decide) rfl ?_
  refine q_aload_n (pc := 6) k95_6 rfl ?_
  refine q_getR (pc := 7) k95_7 fg95_13 rfl rfl ?_
  refine q_iconst (pc := 10) (v := 1) k95_10 (by decide) ?_
  refine q_ialdv (pc := 11) (v := M 99 1) k95_11 rfl (by decide) rfl ?_
  refine q_imul (pc := 12) k95_12 ?_
  exact q_ireturn (pc := 13) k95_13 rfl ⟨_, rfl, h⟩
set_option maxRecDepth 20000 in
theorem vc96 {X : Nat × (Nat → Int32)} {d : Nat} (hd : 0 < d) {M : q_M} {a1 : Int32} {K : Int32 → q_M → Prop} (h : q_Ci X (d - 1) 95 [.ref 97] M (fun r2 M1 => q_Ci X (d - 1) 92 [.int a1, .int r2] M1 (fun r4 M3 => (r4 = 0 ∨ r4 = 1) ∧ K r4 M3))) : q_Ci X d 96 [.ref 97, .int a1] M K := by
  show q_Ex X d 96 0 [some (.ref 97), some (.int a1)] [] M (q_ri K)
  refine q_iload_n (pc := 0) k96_0 rfl ?_
  refine q_aload_n (pc := 1) k96_1 rfl ?_
  refine q_invV (pc := 2) (As := []) (st := [.int a1]) k96_2 lm96_64 ov95 rfl rfl rfl (q_cat rfl) (Nat.le_of_ble_eq_true rfl) hd h ?_
  rintro v M1 ⟨r2, rfl, h⟩
  show q_Ex X d 96 (2 + 3) [some (.ref 97), some (.int a1)] [.int r2, .int a1] M1 _
  refine q_invS (pc := 5) (As := [.int a1, .int r2]) (st := []) k96_5 lm96_68 os92 rfl rfl (q_cat rfl) (Nat.le_of_ble_eq_true rfl) hd h ?_
  rintro v M3 ⟨r4, rfl, h⟩
  show q_Ex X d 96 (5 + 3) [some (.ref 97), some (.int a1)] [.int r4] M3 _
  exact q_zreturn (pc := 8) k96_8 rfl h.1 ⟨_, rfl, h.2⟩
set_option maxRecDepth 20000 in
theorem vc97 {X : Nat × (Nat → Int32)} {d : Nat} (hd : 0 < d) {M : q_M} {a1 : Int32} {K : Int32 → q_M → Prop} (h : q_Ci X (d - 1) 92 [.int a1, .int (M 99 2)] M (fun r2 M1 => (r2 = 0 ∨ r2 = 1) ∧ K r2 M1)) : q_Ci X d 97 [.ref 97, .int a1] M K := by
  show q_Ex X d 97 0 [some (.ref 97), some (.int a1)] [] M (q_ri K)
  refine q_iload_n (pc := 0) k97_0 rfl ?_
  refine q_aload_n (pc := 1) k97_1 rfl ?_
  refine q_getR (pc := 2) k97_2 fg97_13 rfl rfl ?_
  refine q_iconst (pc := 5) (v := 2) k97_5 (by decide) ?_
  refine q_ialdv (pc := 6) (v := M 99 2) k97_6 rfl (by decide) rfl ?_
  refine q_invS (pc := 7) (As := [.int a1, .int (M 99 2)]) (st := []) k97_7 lm97_68 os92 rfl rfl (q_cat rfl) (Nat.le_of_ble_eq_true rfl) hd h ?_
  rintro v M1 ⟨r2, rfl, h⟩
  show q_Ex X d 97 (7 + 3) [some (.ref 97), some (.int a1)] [.int r2] M1 _
  exact q_zreturn (pc := 10) k97_10 rfl h.1 ⟨_, rfl, h.2⟩
set_option maxRecDepth 20000 in
theorem vc98 {X : Nat × (Nat → Int32)} {d : Nat} {M : q_M} {a1 : Int32} {K : Int32 → q_M → Prop} (h : vp_in (45 + (3 * a1)) 135 ∧ (K (M 99 (Int32.toNatClampNeg (45 + (3 * a1)))) M)) : q_Ci X d 98 [.ref 97, .int a1] M K := by
  show q_Ex X d 98 0 [some (.ref 97), some (.int a1)] [] M (q_ri K)
  refine q_aload_n (pc := 0) k98_0 rfl ?_
  refine q_getR (pc := 1) k98_1 fg98_13 rfl rfl ?_
  refine q_bipush (pc := 4) (v := 45) k98_4 (by decide) ?_
  refine q_iconst (pc := 6) (v := 3) k98_6 (by decide) ?_
  refine q_iload_n (pc := 7) k98_7 rfl ?_
  refine q_imul (pc := 8) k98_8 ?_
  refine q_iadd (pc := 9) k98_9 ?_
  refine q_ialdv (pc := 10) (v := M 99 (Int32.toNatClampNeg (45 + (3 * a1)))) k98_10 rfl h.1 rfl ?_
  replace h := h.2
  exact q_ireturn (pc := 11) k98_11 rfl ⟨_, rfl, h⟩
set_option maxRecDepth 20000 in
theorem vc99 {X : Nat × (Nat → Int32)} {d : Nat} {M : q_M} {a1 : Int32} {K : Int32 → q_M → Prop} (h : vp_in ((45 + (3 * a1)) + 1) 135 ∧ (K (M 99 (Int32.toNatClampNeg ((45 + (3 * a1)) + 1))) M)) : q_Ci X d 99 [.ref 97, .int a1] M K := by
  show q_Ex X d 99 0 [some (.ref 97), some (.int a1)] [] M (q_ri K)
  refine q_aload_n (pc := 0) k99_0 rfl ?_
  refine q_getR (pc := 1) k99_1 fg99_13 rfl rfl ?_
  refine q_bipush (pc := 4) (v := 45) k99_4 (by decide) ?_
  refine q_iconst (pc := 6) (v := 3) k99_6 (by decide) ?_
  refine q_iload_n (pc := 7) k99_7 rfl ?_
  refine q_imul (pc := 8) k99_8 ?_
  refine q_iadd (pc := 9) k99_9 ?_
  refine q_iconst (pc := 10) (v := 1) k99_10 (by decide) ?_
  refine q_iadd (pc := 11) k99_11 ?_
  refine q_ialdv (pc := 12) (v := M 99 (Int32.toNatClampNeg ((45 + (3 * a1)) + 1))) k99_12 rfl h.1 rfl ?_
  replace h := h.2
  exact q_ireturn (pc := 13) k99_13 rfl ⟨_, rfl, h⟩
set_option maxRecDepth 20000 in
theorem vc100 {X : Nat × (Nat → Int32)} {d : Nat} {M : q_M} {a1 : Int32} {K : Int32 → q_M → Prop} (h : vp_in ((45 + (3 * a1)) + 2) 135 ∧ (K (M 99 (Int32.toNatClampNeg ((45 + (3 * a1)) + 2))) M)) : q_Ci X d 100 [.ref 97, .int a1] M K := by
  show q_Ex X d 100 0 [some (.ref 97), some (.int a1)] [] M (q_ri K)
  refine q_aload_n (pc := 0) k100_0 rfl ?_
  refine q_getR (pc := 1) k100_1 fg100_13 rfl rfl ?_
  refine q_bipush (pc := 4) (v := 45) k100_4 (by decide) ?_
  refine q_iconst (pc := 6) (v := 3) k100_6 (by decide) ?_
  refine q_iload_n (pc := 7) k100_7 rfl ?_
  refine q_imul (pc := 8) k100_8 ?_
  refine q_iadd (pc := 9) k100_9 ?_
  refine q_iconst (pc := 10) (v := 2) k100_10 (by decide) ?_
  refine q_iadd (pc := 11) k100_11 ?_
  refine q_ialdv (pc := 12) (v := M 99 (Int32.toNatClampNeg ((45 + (3 * a1)) + 2))) k100_12 rfl h.1 rfl ?_
  replace h := h.2
  exact q_ireturn (pc := 13) k100_13 rfl ⟨_, rfl, h⟩
set_option maxRecDepth 20000 in
theorem vc101 {X : Nat × (Nat → Int32)} {d : Nat} (hd : 0 < d) {M : q_M} {a1 : Int32} {K : Int32 → q_M → Prop} (h : q_Ci X (d - 1) 93 [.int a1, .int 0, .int 255] M (fun r2 M1 => ((¬ r2 = 0) → (((r2 = 0) → (vp_in (M1 97 6) 48 ∧ (K ((M1 97 6) + 1) (q_set (q_set M1 102 (Int32.toNatClampNeg (M1 97 6)) a1) 97 6 ((M1 97 6) + 1))))) ∧ ((¬ r2 = 0) → (q_Ci X (d - 1) 91 [.ref 97, .int r2] M1 (fun r4 M3 => K r4 M3))))) ∧ ((r2 = 0) → (((¬ (M1 97 6) = 48) → (((r2 = 0) → (vp_in (M1 97 6) 48 ∧ (K ((M1 97 6) + 1) (q_set (q_set M1 102 (Int32.toNatClampNeg (M1 97 6)) a1) 97 6 ((M1 97 6) + 1))))) ∧ ((¬ r2 = 0) → (q_Ci X (d - 1) 91 [.ref 97, .int r2] M1 (fun r6 M5 => K r6 M5))))) ∧ (((M1 97 6) = 48) → (q_Ci X (d - 1) 91 [.ref 97, .int (-6)] M1 (fun r8 M7 => K r8 M7))))))) : q_Ci X d 101 [.ref 97, .int a1] M K := by
  show q_Ex X d 101 0 [some (.ref 97), some (.int a1), none] [] M (q_ri K)
  refine q_iload_n (pc := 0) k101_0 rfl ?_
  refine q_iconst (pc := 1) (v := 0) k101_1 (by decide) ?_
  refine q_sipush (pc := 2) (v := 255) k101_2 (by decide) ?_
  refine q_invS (pc := 5) (As := [.int a1, .int 0, .int 255]) (st := []) k101_5 lm101_72 os93 rfl rfl (q_cat rfl) (Nat.le_of_ble_eq_true rfl) hd h ?_
  rintro v M1 ⟨r2, rfl, h⟩
  show q_Ex X d 101 (5 + 3) [some (.ref 97), some (.int a1), none] [.int r2] M1 _
  refine q_istore_n (pc := 8) [some (.ref 97), some (.int a1), some (.int r2)] k101_8 rfl (by decide) rfl ?_
  refine q_iload_n (pc := 9) k101_9 rfl ?_
  refine q_if_ne (pc := 10) 25 k101_10 (by decide) (fun g => ?_) (fun g => ?_)
  · replace h := h.1 g
    refine q_iload_n (pc := 25) k101_25 rfl ?_
    refine q_if_eq (pc := 26) 35 k101_26 (by decide) (fun g => ?_) (fun g => ?_)
    · replace h := h.1 g
      refine q_aload_n (pc := 35) k101_35 rfl ?_
      refine q_getR (pc := 36) k101_36 fg101_22 rfl rfl ?_
      refine q_aload_n (pc := 39) k101_39 rfl ?_
      refine q_getIv (pc := 40) (v := M1 97 6) k101_40 fg101_76 rfl rfl rfl ?_
      refine q_iload_n (pc := 43) k101_43 rfl ?_
      refine q_iastv (pc := 44) (k := (Int32.toNatClampNeg (M1 97 6))) k101_44 rfl h.1 rfl ?_
      replace h := h.2
      refine q_aload_n (pc := 45) k101_45 rfl ?_
      refine q_dup (pc := 46) k101_46 rfl ?_
      refine q_getIv (pc := 47) (v := M1 97 6) k101_47 fg101_76 rfl rfl rfl ?_
      refine q_iconst (pc := 50) (v := 1) k101_50 (by decide) ?_
      refine q_iadd (pc := 51) k101_51 ?_
      refine q_putI (pc := 52) k101_52 fp101_76 rfl rfl ?_
      refine q_aload_n (pc := 55) k101_55 rfl ?_
      refine q_getIv (pc := 56) (v := (M1 97 6) + 1) k101_56 fg101_76 rfl rfl rfl ?_
      exact q_ireturn (pc := 59) k101_59 rfl ⟨_, rfl, h⟩
    · replace h := h.2 g
      refine q_aload_n (pc := 29) k101_29 rfl ?_
      refine q_iload_n (pc := 30) k101_30 rfl ?_
      refine q_invV (pc := 31) (As := [.int r2]) (st := []) k101_31 lm101_80 ov91 rfl rfl rfl (q_cat rfl) (Nat.le_of_ble_eq_true rfl) hd h ?_
      rintro v M3 ⟨r4, rfl, h⟩
      show q_Ex X d 101 (31 + 3) [some (.ref 97), some (.int a1), some (.int r2)] [.int r4] M3 _
      exact q_ireturn (pc := 34) k101_34 rfl ⟨_, rfl, h⟩
  · replace h := h.2 g
    refine q_aload_n (pc := 13) k101_13 rfl ?_
    refine q_getIv (pc := 14) (v := M1 97 6) k101_14 fg101_76 rfl rfl rfl ?_
    refine q_bipush (pc := 17) (v := 48) k101_17 (by decide) ?_
    refine q_icmp_ne (pc := 19) 25 k101_19 (by decide) (fun g => ?_) (fun g => ?_)
    · replace h := h.1 g
      refine q_iload_n (pc := 25) k101_25 rfl ?_
      refine q_if_eq (pc := 26) 35 k101_26 (by decide) (fun g => ?_) (fun g => ?_)
      · replace h := h.1 g
        refine q_aload_n (pc := 35) k101_35 rfl ?_
        refine q_getR (pc := 36) k101_36 fg101_22 rfl rfl ?_
        refine q_aload_n (pc := 39) k101_39 rfl ?_
        refine q_getIv (pc := 40) (v := M1 97 6) k101_40 fg101_76 rfl rfl rfl ?_
        refine q_iload_n (pc := 43) k101_43 rfl ?_
        refine q_iastv (pc := 44) (k := (Int32.toNatClampNeg (M1 97 6))) k101_44 rfl h.1 rfl ?_
        replace h := h.2
        refine q_aload_n (pc := 45) k101_45 rfl ?_
        refine q_dup (pc := 46) k101_46 rfl ?_
        refine q_getIv (pc := 47) (v := M1 97 6) k101_47 fg101_76 rfl rfl rfl ?_
        refine q_iconst (pc := 50) (v := 1) k101_50 (by decide) ?_
        refine q_iadd (pc := 51) k101_51 ?_
        refine q_putI (pc := 52) k101_52 fp101_76 rfl rfl ?_
        refine q_aload_n (pc := 55) k101_55 rfl ?_
        refine q_getIv (pc := 56) (v := (M1 97 6) + 1) k101_56 fg101_76 rfl rfl rfl ?_
        exact q_ireturn (pc := 59) k101_59 rfl ⟨_, rfl, h⟩
      · replace h := h.2 g
        refine q_aload_n (pc := 29) k101_29 rfl ?_
        refine q_iload_n (pc := 30) k101_30 rfl ?_
        refine q_invV (pc := 31) (As := [.int r2]) (st := []) k101_31 lm101_80 ov91 rfl rfl rfl (q_cat rfl) (Nat.le_of_ble_eq_true rfl) hd h ?_
        rintro v M5 ⟨r6, rfl, h⟩
        show q_Ex X d 101 (31 + 3) [some (.ref 97), some (.int a1), some (.int r2)] [.int r6] M5 _
        exact q_ireturn (pc := 34) k101_34 rfl ⟨_, rfl, h⟩
    · replace h := h.2 g
      refine q_bipush (pc := 22) (v := (-6)) k101_22 (by decide) ?_
      refine q_istore_n (pc := 24) [some (.ref 97), some (.int a1), some (.int (-6))] k101_24 rfl (by decide) rfl ?_
      refine q_iload_n (pc := 25) k101_25 rfl ?_
      refine q_if_eq (pc := 26) 35 k101_26 (by decide) (fun g => absurd g (by decide)) (fun _ => ?_)
      refine q_aload_n (pc := 29) k101_29 rfl ?_
      refine q_iload_n (pc := 30) k101_30 rfl ?_
      refine q_invV (pc := 31) (As := [.int (-6)]) (st := []) k101_31 lm101_80 ov91 rfl rfl rfl (q_cat rfl) (Nat.le_of_ble_eq_true rfl) hd h ?_
      rintro v M7 ⟨r8, rfl, h⟩
      show q_Ex X d 101 (31 + 3) [some (.ref 97), some (.int a1), some (.int (-6))] [.int r8] M7 _
      exact q_ireturn (pc := 34) k101_34 rfl ⟨_, rfl, h⟩
set_option maxRecDepth 20000 in
theorem vc102 {X : Nat × (Nat → Int32)} {d : Nat} {M : q_M} {a1 a2 : Int32} {K : Int32 → q_M → Prop} (h : vp_in (45 + (3 * a2)) 135 ∧ (vp_in ((45 + (3 * a2)) + 1) 135 ∧ (vp_in ((45 + (3 * a2)) + 2) 135 ∧ (((¬ a1 = 46) → (((¬ a1 = 35) → (((a1 < 49) → (((a1 < 97) → (((a1 < 120) → (K 0 (q_set (q_set (q_set M 101 (Int32.toNatClampNeg (45 + (3 * a2))) 0) 101 (Int32.toNatClampNeg ((45 + (3 * a2)) + 1)) 0) 101 (Int32.toNatClampNeg ((45 + (3 * a2)) + 2)) (-9)))) ∧ ((¬ a1 < 120) → (((a1 ≤ 122) → (((¬ (((M 97 8) >>> ((a1 - 120) &&& 31)) &&& 1) = 1) → (vp_in (45 + (3 * a2)) 135 ∧ (vp_in ((45 + (3 * a2)) + 2) 135 ∧ (K 1 (q_set (q_set (q_set (q_set (q_set (q_set M 101 (Int32.toNatClampNeg (45 + (3 * a2))) 0) 101 (Int32.toNatClampNeg ((45 + (3 * a2)) + 1)) 0) 101 (Int32.toNatClampNeg ((45 + (3 * a2)) + 2)) (-9)) 101 (Int32.toNatClampNeg (45 + (3 * a2))) 3) 101 (Int32.toNatClampNeg ((45 + (3 * a2)) + 2)) (a1 - 120)) 97 8 ((M 97 8) ||| (1 <<< ((a1 - 120) &&& 31)))))))) ∧ (((((M 97 8) >>> ((a1 - 120) &&& 31)) &&& 1) = 1) → (K 0 (q_set (q_set (q_set M 101 (Int32.toNatClampNeg (45 + (3 * a2))) 0) 101 (Int32.toNatClampNeg ((45 + (3 * a2)) + 1)) 0) 101 (Int32.toNatClampNeg ((45 + (3 * a2)) + 2)) (-9)))))) ∧ ((¬ a1 ≤ 122) → (K 0 (q_set (q_set (q_set M 101 (Int32.toNatClampNeg (45 + (3 * a2))) 0) 101 (Int32.toNatClampNeg ((45 + (3 * a2)) + 1)) 0) 101 (Int32.toNatClampNeg ((45 + (3 * a2)) + 2)) (-9)))))))) ∧ ((¬ a1 < 97) → (((99 < a1) → (((a1 < 120) → (K 0 (q_set (q_set (q_set M 101 (Int32.toNatClampNeg (45 + (3 * a2))) 0) 101 (Int32.toNatClampNeg ((45 + (3 * a2)) + 1)) 0) 101 (Int32.toNatClampNeg ((45 + (3 * a2)) + 2)) (-9)))) ∧ ((¬ a1 < 120) → (((a1 ≤ 122) → (((¬ (((M 97 8) >>> ((a1 - 120) &&& 31)) &&& 1) = 1) → (vp_in (45 + (3 * a2)) 135 ∧ (vp_in ((45 + (3 * a2)) + 2) 135 ∧ (K 1 (q_set (q_set (q_set (q_set (q_set (q_set M 101 (Int32.toNatClampNeg (45 + (3 * a2))) 0) 101 (Int32.toNatClampNeg ((45 + (3 * a2)) + 1)) 0) 101 (Int32.toNatClampNeg ((45 + (3 * a2)) + 2)) (-9)) 101 (Int32.toNatClampNeg (45 + (3 * a2))) 3) 101 (Int32.toNatClampNeg ((45 + (3 * a2)) + 2)) (a1 - 120)) 97 8 ((M 97 8) ||| (1 <<< ((a1 - 120) &&& 31)))))))) ∧ (((((M 97 8) >>> ((a1 - 120) &&& 31)) &&& 1) = 1) → (K 0 (q_set (q_set (q_set M 101 (Int32.toNatClampNeg (45 + (3 * a2))) 0) 101 (Int32.toNatClampNeg ((45 + (3 * a2)) + 1)) 0) 101 (Int32.toNatClampNeg ((45 + (3 * a2)) + 2)) (-9)))))) ∧ ((¬ a1 ≤ 122) → (K 0 (q_set (q_set (q_set M 101 (Int32.toNatClampNeg (45 + (3 * a2))) 0) 101 (Int32.toNatClampNeg ((45 + (3 * a2)) + 1)) 0) 101 (Int32.toNatClampNeg ((45 + (3 * a2)) + 2)) (-9)))))))) ∧ ((¬ 99 < a1) → (((¬ (((M 97 7) >>> ((a1 - 97) &&& 31)) &&& 1) = 1) → (vp_in (45 + (3 * a2)) 135 ∧ (vp_in ((45 + (3 * a2)) + 2) 135 ∧ (K 1 (q_set (q_set (q_set (q_set (q_set (q_set M 101 (Int32.toNatClampNeg (45 + (3 * a2))) 0) 101 (Int32.toNatClampNeg ((45 + (3 * a2)) + 1)) 0) 101 (Int32.toNatClampNeg ((45 + (3 * a2)) + 2)) (-9)) 101 (Int32.toNatClampNeg (45 + (3 * a2))) 2) 101 (Int32.toNatClampNeg ((45 + (3 * a2)) + 2)) (a1 - 97)) 97 7 ((M 97 7) ||| (1 <<< ((a1 - 97) &&& 31)))))))) ∧ (((((M 97 7) >>> ((a1 - 97) &&& 31)) &&& 1) = 1) → (K 0 (q_set (q_set (q_set M 101 (Int32.toNatClampNeg (45 + (3 * a2))) 0) 101 (Int32.toNatClampNeg ((45 + (3 * a2)) + 1)) 0) 101 (Int32.toNatClampNeg ((45 + (3 * a2)) + 2)) (-9)))))))))) ∧ ((¬ a1 < 49) → (((57 < a1) → (((a1 < 97) → (((a1 < 120) → (K 0 (q_set (q_set (q_set M 101 (Int32.toNatClampNeg (45 + (3 * a2))) 0) 101 (Int32.toNatClampNeg ((45 + (3 * a2)) + 1)) 0) 101 (Int32.toNatClampNeg ((45 + (3 * a2)) + 2)) (-9)))) ∧ ((¬ a1 < 120) → (((a1 ≤ 122) → (((¬ (((M 97 8) >>> ((a1 - 120) &&& 31)) &&& 1) = 1) → (vp_in (45 + (3 * a2)) 135 ∧ (vp_in ((45 + (3 * a2)) + 2) 135 ∧ (K 1 (q_set (q_set (q_set (q_set (q_set (q_set M 101 (Int32.toNatClampNeg (45 + (3 * a2))) 0) 101 (Int32.toNatClampNeg ((45 + (3 * a2)) + 1)) 0) 101 (Int32.toNatClampNeg ((45 + (3 * a2)) + 2)) (-9)) 101 (Int32.toNatClampNeg (45 + (3 * a2))) 3) 101 (Int32.toNatClampNeg ((45 + (3 * a2)) + 2)) (a1 - 120)) 97 8 ((M 97 8) ||| (1 <<< ((a1 - 120) &&& 31)))))))) ∧ (((((M 97 8) >>> ((a1 - 120) &&& 31)) &&& 1) = 1) → (K 0 (q_set (q_set (q_set M 101 (Int32.toNatClampNeg (45 + (3 * a2))) 0) 101 (Int32.toNatClampNeg ((45 + (3 * a2)) + 1)) 0) 101 (Int32.toNatClampNeg ((45 + (3 * a2)) + 2)) (-9)))))) ∧ ((¬ a1 ≤ 122) → (K 0 (q_set (q_set (q_set M 101 (Int32.toNatClampNeg (45 + (3 * a2))) 0) 101 (Int32.toNatClampNeg ((45 + (3 * a2)) + 1)) 0) 101 (Int32.toNatClampNeg ((45 + (3 * a2)) + 2)) (-9)))))))) ∧ ((¬ a1 < 97) → (((99 < a1) → (((a1 < 120) → (K 0 (q_set (q_set (q_set M 101 (Int32.toNatClampNeg (45 + (3 * a2))) 0) 101 (Int32.toNatClampNeg ((45 + (3 * a2)) + 1)) 0) 101 (Int32.toNatClampNeg ((45 + (3 * a2)) + 2)) (-9)))) ∧ ((¬ a1 < 120) → (((a1 ≤ 122) → (((¬ (((M 97 8) >>> ((a1 - 120) &&& 31)) &&& 1) = 1) → (vp_in (45 + (3 * a2)) 135 ∧ (vp_in ((45 + (3 * a2)) + 2) 135 ∧ (K 1 (q_set (q_set (q_set (q_set (q_set (q_set M 101 (Int32.toNatClampNeg (45 + (3 * a2))) 0) 101 (Int32.toNatClampNeg ((45 + (3 * a2)) + 1)) 0) 101 (Int32.toNatClampNeg ((45 + (3 * a2)) + 2)) (-9)) 101 (Int32.toNatClampNeg (45 + (3 * a2))) 3) 101 (Int32.toNatClampNeg ((45 + (3 * a2)) + 2)) (a1 - 120)) 97 8 ((M 97 8) ||| (1 <<< ((a1 - 120) &&& 31)))))))) ∧ (((((M 97 8) >>> ((a1 - 120) &&& 31)) &&& 1) = 1) → (K 0 (q_set (q_set (q_set M 101 (Int32.toNatClampNeg (45 + (3 * a2))) 0) 101 (Int32.toNatClampNeg ((45 + (3 * a2)) + 1)) 0) 101 (Int32.toNatClampNeg ((45 + (3 * a2)) + 2)) (-9)))))) ∧ ((¬ a1 ≤ 122) → (K 0 (q_set (q_set (q_set M 101 (Int32.toNatClampNeg (45 + (3 * a2))) 0) 101 (Int32.toNatClampNeg ((45 + (3 * a2)) + 1)) 0) 101 (Int32.toNatClampNeg ((45 + (3 * a2)) + 2)) (-9)))))))) ∧ ((¬ 99 < a1) → (((¬ (((M 97 7) >>> ((a1 - 97) &&& 31)) &&& 1) = 1) → (vp_in (45 + (3 * a2)) 135 ∧ (vp_in ((45 + (3 * a2)) + 2) 135 ∧ (K 1 (q_set (q_set (q_set (q_set (q_set (q_set M 101 (Int32.toNatClampNeg (45 + (3 * a2))) 0) 101 (Int32.toNatClampNeg ((45 + (3 * a2)) + 1)) 0) 101 (Int32.toNatClampNeg ((45 + (3 * a2)) + 2)) (-9)) 101 (Int32.toNatClampNeg (45 + (3 * a2))) 2) 101 (Int32.toNatClampNeg ((45 + (3 * a2)) + 2)) (a1 - 97)) 97 7 ((M 97 7) ||| (1 <<< ((a1 - 97) &&& 31)))))))) ∧ (((((M 97 7) >>> ((a1 - 97) &&& 31)) &&& 1) = 1) → (K 0 (q_set (q_set (q_set M 101 (Int32.toNatClampNeg (45 + (3 * a2))) 0) 101 (Int32.toNatClampNeg ((45 + (3 * a2)) + 1)) 0) 101 (Int32.toNatClampNeg ((45 + (3 * a2)) + 2)) (-9)))))))))) ∧ ((¬ 57 < a1) → (vp_in ((45 + (3 * a2)) + 1) 135 ∧ (K 1 (q_set (q_set (q_set (q_set M 101 (Int32.toNatClampNeg (45 + (3 * a2))) 0) 101 (Int32.toNatClampNeg ((45 + (3 * a2)) + 1)) 0) 101 (Int32.toNatClampNeg ((45 + (3 * a2)) + 2)) (-9)) 101 (Int32.toNatClampNeg ((45 + (3 * a2)) + 1)) (a1 - 48))))))))) ∧ ((a1 = 35) → (vp_in (45 + (3 * a2)) 135 ∧ (K 1 (q_set (q_set (q_set (q_set M 101 (Int32.toNatClampNeg (45 + (3 * a2))) 0) 101 (Int32.toNatClampNeg ((45 + (3 * a2)) + 1)) 0) 101 (Int32.toNatClampNeg ((45 + (3 * a2)) + 2)) (-9)) 101 (Int32.toNatClampNeg (45 + (3 * a2))) 1)))))) ∧ ((a1 = 46) → (K 1 (q_set (q_set (q_set M 101 (Int32.toNatClampNeg (45 + (3 * a2))) 0) 101 (Int32.toNatClampNeg ((45 + (3 * a2)) + 1)) 0) 101 (Int32.toNatClampNeg ((45 + (3 * a2)) + 2)) (-9)))))))) : q_Ci X d 102 [.ref 97, .int a1, .int a2] M K := by
  show q_Ex X d 102 0 [some (.ref 97), some (.int a1), some (.int a2), none, none, none] [] M (q_ri K)
  refine q_bipush (pc := 0) (v := 45) k102_0 (by decide) ?_
  refine q_iconst (pc := 2) (v := 3) k102_2 (by decide) ?_
  refine q_iload_n (pc := 3) k102_3 rfl ?_
  refine q_imul (pc := 4) k102_4 ?_
  refine q_iadd (pc := 5) k102_5 ?_
  refine q_istore_n (pc := 6) [some (.ref 97), some (.int a1), some (.int a2), some (.int (45 + (3 * a2))), none, none] k102_6 rfl (by decide) rfl ?_
  refine q_aload_n (pc := 7) k102_7 rfl ?_
  refine q_getR (pc := 8) k102_8 fg102_19 rfl rfl ?_
  refine q_iload_n (pc := 11) k102_11 rfl ?_
  refine q_iconst (pc := 12) (v := 0) k102_12 (by decide) ?_
  refine q_iastv (pc := 13) (k := (Int32.toNatClampNeg (45 + (3 * a2)))) k102_13 rfl h.1 rfl ?_
  replace h := h.2
  refine q_aload_n (pc := 14) k102_14 rfl ?_
  refine q_getR (pc := 15) k102_15 fg102_19 rfl rfl ?_
  refine q_iload_n (pc := 18) k102_18 rfl ?_
  refine q_iconst (pc := 19) (v := 1) k102_19 (by decide) ?_
  refine q_iadd (pc := 20) k102_20 ?_
  refine q_iconst (pc := 21) (v := 0) k102_21 (by decide) ?_
  refine q_iastv (pc := 22) (k := (Int32.toNatClampNeg ((45 + (3 * a2)) + 1))) k102_22 rfl h.1 rfl ?_
  replace h := h.2
  refine q_aload_n (pc := 23) k102_23 rfl ?_
  refine q_getR (pc := 24) k102_24 fg102_19 rfl rfl ?_
  refine q_iload_n (pc := 27) k102_27 rfl ?_
  refine q_iconst (pc := 28) (v := 2) k102_28 (by decide) ?_
  refine q_iadd (pc := 29) k102_29 ?_
  refine q_bipush (pc := 30) (v := (-9)) k102_30 (by decide) ?_
  refine q_iastv (pc := 32) (k := (Int32.toNatClampNeg ((45 + (3 * a2)) + 2))) k102_32 rfl h.1 rfl ?_
  replace h := h.2
  refine q_iload_n (pc := 33) k102_33 rfl ?_
  refine q_bipush (pc := 34) (v := 46) k102_34 (by decide) ?_
  refine q_icmp_ne (pc := 36) 41 k102_36 (by decide) (fun g => ?_) (fun g => ?_)
  · replace h := h.1 g
    refine q_iload_n (pc := 41) k102_41 rfl ?_
    refine q_bipush (pc := 42) (v := 35) k102_42 (by decide) ?_
    refine q_icmp_ne (pc := 44) 56 k102_44 (by decide) (fun g => ?_) (fun g => ?_)
    · replace h := h.1 g
      refine q_iload_n (pc := 56) k102_56 rfl ?_
      refine q_bipush (pc := 57) (v := 49) k102_57 (by decide) ?_
      refine q_icmp_lt (pc := 59) 82 k102_59 (by decide) (fun g => ?_) (fun g => ?_)
      · replace h := h.1 g
        refine q_iload_n (pc := 82) k102_82 rfl ?_
        refine q_bipush (pc := 83) (v := 97) k102_83 (by decide) ?_
        refine q_icmp_lt (pc := 85) 98 k102_85 (by decide) (fun g => ?_) (fun g => ?_)
        · replace h := h.1 g
          refine q_iconst (pc := 98) (v := 0) k102_98 (by decide) ?_
          refine q_istore (pc := 99) [some (.ref 97), some (.int a1), some (.int a2), some (.int (45 + (3 * a2))), some (.int 0), none] k102_99 rfl (by decide) rfl ?_
          refine q_iload (pc := 101) k102_101 rfl ?_
          refine q_if_ne (pc := 103) 120 k102_103 (by decide) (fun g => absurd g (by decide)) (fun _ => ?_)
          refine q_iload_n (pc := 106) k102_106 rfl ?_
          refine q_bipush (pc := 107) (v := 120) k102_107 (by decide) ?_
          refine q_icmp_lt (pc := 109) 118 k102_109 (by decide) (fun g => ?_) (fun g => ?_)
          · replace h := h.1 g
            refine q_iconst (pc := 118) (v := 0) k102_118 (by decide) ?_
            exact q_zreturn (pc := 119) k102_119 rfl (by decide) ⟨_, rfl, h⟩
          · replace h := h.2 g
            refine q_iload_n (pc := 112) k102_112 rfl ?_
            refine q_bipush (pc := 113) (v := 122) k102_113 (by decide) ?_
            refine q_icmp_le (pc := 115) 120 k102_115 (by decide) (fun g => ?_) (fun g => ?_)
            · replace h := h.1 g
              refine q_iload (pc := 120) k102_120 rfl ?_
              refine q_if_eq (pc := 122) 132 k102_122 (by decide) (fun _ => ?_) (fun g => absurd g (by decide))
              refine q_iload_n (pc := 132) k102_132 rfl ?_
              refine q_bipush (pc := 133) (v := 120) k102_133 (by decide) ?_
              refine q_isub (pc := 135) k102_135 ?_
              refine q_istore (pc := 136) [some (.ref 97), some (.int a1), some (.int a2), some (.int (45 + (3 * a2))), some (.int 0), some (.int (a1 - 120))] k102_136 rfl (by decide) rfl ?_
              refine q_iload (pc := 138) k102_138 rfl ?_
              refine q_if_eq (pc := 140) 150 k102_140 (by decide) (fun _ => ?_) (fun g => absurd g (by decide))
              refine q_aload_n (pc := 150) k102_150 rfl ?_
              refine q_getIv (pc := 151) (v := M 97 8) k102_151 fg102_87 rfl rfl rfl ?_
              refine q_iload (pc := 154) k102_154 rfl ?_
              refine q_ishr (pc := 156) k102_156 ?_
              refine q_iconst (pc := 157) (v := 1) k102_157 (by decide) ?_
              refine q_iand (pc := 158) k102_158 ?_
              refine q_iconst (pc := 159) (v := 1) k102_159 (by decide) ?_
              refine q_icmp_ne (pc := 160) 165 k102_160 (by decide) (fun g => ?_) (fun g => ?_)
              · replace h := h.1 g
                refine q_aload_n (pc := 165) k102_165 rfl ?_
                refine q_getR (pc := 166) k102_166 fg102_19 rfl rfl ?_
                refine q_iload_n (pc := 169) k102_169 rfl ?_
                refine q_iload (pc := 170) k102_170 rfl ?_
                refine q_if_eq (pc := 172) 179 k102_172 (by decide) (fun _ => ?_) (fun g => absurd g (by decide))
                refine q_iconst (pc := 179) (v := 3) k102_179 (by decide) ?_
                refine q_iastv (pc := 180) (k := (Int32.toNatClampNeg (45 + (3 * a2)))) k102_180 rfl h.1 rfl ?_
                replace h := h.2
                refine q_aload_n (pc := 181) k102_181 rfl ?_
                refine q_getR (pc := 182) k102_182 fg102_19 rfl rfl ?_
                refine q_iload_n (pc := 185) k102_185 rfl ?_
                refine q_iconst (pc := 186) (v := 2) k102_186 (by decide) ?_
                refine q_iadd (pc := 187) k102_187 ?_
                refine q_iload (pc := 188) k102_188 rfl ?_
                refine q_iastv (pc := 190) (k := (Int32.toNatClampNeg ((45 + (3 * a2)) + 2))) k102_190 rfl h.1 rfl ?_
                replace h := h.2
                refine q_iload (pc := 191) k102_191 rfl ?_
                refine q_if_eq (pc := 193) 212 k102_193 (by decide) (fun _ => ?_) (fun g => absurd g (by decide))
                refine q_aload_n (pc := 212) k102_212 rfl ?_
                refine q_dup (pc := 213) k102_213 rfl ?_
                refine q_getIv (pc := 214) (v := M 97 8) k102_214 fg102_87 rfl rfl rfl ?_
                refine q_iconst (pc := 217) (v := 1) k102_217 (by decide) ?_
                refine q_iload (pc := 218) k102_218 rfl ?_
                refine q_ishl (pc := 220) k102_220 ?_
                refine q_ior (pc := 221) k102_221 ?_
                refine q_putI (pc := 222) k102_222 fp102_87 rfl rfl ?_
                refine q_iconst (pc := 225) (v := 1) k102_225 (by decide) ?_
                exact q_zreturn (pc := 226) k102_226 rfl (by decide) ⟨_, rfl, h⟩
              · replace h := h.2 g
                refine q_iconst (pc := 163) (v := 0) k102_163 (by decide) ?_
                exact q_zreturn (pc := 164) k102_164 rfl (by decide) ⟨_, rfl, h⟩
            · replace h := h.2 g
              refine q_iconst (pc := 118) (v := 0) k102_118 (by decide) ?_
              exact q_zreturn (pc := 119) k102_119 rfl (by decide) ⟨_, rfl, h⟩
        · replace h := h.2 g
          refine q_iload_n (pc := 88) k102_88 rfl ?_
          refine q_bipush (pc := 89) (v := 99) k102_89 (by decide) ?_
          refine q_icmp_gt (pc := 91) 98 k102_91 (by decide) (fun g => ?_) (fun g => ?_)
          · replace h := h.1 g
            refine q_iconst (pc := 98) (v := 0) k102_98 (by decide) ?_
            refine q_istore (pc := 99) [some (.ref 97), some (.int a1), some (.int a2), some (.int (45 + (3 * a2))), some (.int 0), none] k102_99 rfl (by decide) rfl ?_
            refine q_iload (pc := 101) k102_101 rfl ?_
            refine q_if_ne (pc := 103) 120 k102_103 (by decide) (fun g => absurd g (by decide)) (fun _ => ?_)
            refine q_iload_n (pc := 106) k102_106 rfl ?_
            refine q_bipush (pc := 107) (v := 120) k102_107 (by decide) ?_
            refine q_icmp_lt (pc := 109) 118 k102_109 (by decide) (fun g => ?_) (fun g => ?_)
            · replace h := h.1 g
              refine q_iconst (pc := 118) (v := 0) k102_118 (by decide) ?_
              exact q_zreturn (pc := 119) k102_119 rfl (by decide) ⟨_, rfl, h⟩
            · replace h := h.2 g
              refine q_iload_n (pc := 112) k102_112 rfl ?_
              refine q_bipush (pc := 113) (v := 122) k102_113 (by decide) ?_
              refine q_icmp_le (pc := 115) 120 k102_115 (by decide) (fun g => ?_) (fun g => ?_)
              · replace h := h.1 g
                refine q_iload (pc := 120) k102_120 rfl ?_
                refine q_if_eq (pc := 122) 132 k102_122 (by decide) (fun _ => ?_) (fun g => absurd g (by decide))
                refine q_iload_n (pc := 132) k102_132 rfl ?_
                refine q_bipush (pc := 133) (v := 120) k102_133 (by decide) ?_
                refine q_isub (pc := 135) k102_135 ?_
                refine q_istore (pc := 136) [some (.ref 97), some (.int a1), some (.int a2), some (.int (45 + (3 * a2))), some (.int 0), some (.int (a1 - 120))] k102_136 rfl (by decide) rfl ?_
                refine q_iload (pc := 138) k102_138 rfl ?_
                refine q_if_eq (pc := 140) 150 k102_140 (by decide) (fun _ => ?_) (fun g => absurd g (by decide))
                refine q_aload_n (pc := 150) k102_150 rfl ?_
                refine q_getIv (pc := 151) (v := M 97 8) k102_151 fg102_87 rfl rfl rfl ?_
                refine q_iload (pc := 154) k102_154 rfl ?_
                refine q_ishr (pc := 156) k102_156 ?_
                refine q_iconst (pc := 157) (v := 1) k102_157 (by decide) ?_
                refine q_iand (pc := 158) k102_158 ?_
                refine q_iconst (pc := 159) (v := 1) k102_159 (by decide) ?_
                refine q_icmp_ne (pc := 160) 165 k102_160 (by decide) (fun g => ?_) (fun g => ?_)
                · replace h := h.1 g
                  refine q_aload_n (pc := 165) k102_165 rfl ?_
                  refine q_getR (pc := 166) k102_166 fg102_19 rfl rfl ?_
                  refine q_iload_n (pc := 169) k102_169 rfl ?_
                  refine q_iload (pc := 170) k102_170 rfl ?_
                  refine q_if_eq (pc := 172) 179 k102_172 (by decide) (fun _ => ?_) (fun g => absurd g (by decide))
                  refine q_iconst (pc := 179) (v := 3) k102_179 (by decide) ?_
                  refine q_iastv (pc := 180) (k := (Int32.toNatClampNeg (45 + (3 * a2)))) k102_180 rfl h.1 rfl ?_
                  replace h := h.2
                  refine q_aload_n (pc := 181) k102_181 rfl ?_
                  refine q_getR (pc := 182) k102_182 fg102_19 rfl rfl ?_
                  refine q_iload_n (pc := 185) k102_185 rfl ?_
                  refine q_iconst (pc := 186) (v := 2) k102_186 (by decide) ?_
                  refine q_iadd (pc := 187) k102_187 ?_
                  refine q_iload (pc := 188) k102_188 rfl ?_
                  refine q_iastv (pc := 190) (k := (Int32.toNatClampNeg ((45 + (3 * a2)) + 2))) k102_190 rfl h.1 rfl ?_
                  replace h := h.2
                  refine q_iload (pc := 191) k102_191 rfl ?_
                  refine q_if_eq (pc := 193) 212 k102_193 (by decide) (fun _ => ?_) (fun g => absurd g (by decide))
                  refine q_aload_n (pc := 212) k102_212 rfl ?_
                  refine q_dup (pc := 213) k102_213 rfl ?_
                  refine q_getIv (pc := 214) (v := M 97 8) k102_214 fg102_87 rfl rfl rfl ?_
                  refine q_iconst (pc := 217) (v := 1) k102_217 (by decide) ?_
                  refine q_iload (pc := 218) k102_218 rfl ?_
                  refine q_ishl (pc := 220) k102_220 ?_
                  refine q_ior (pc := 221) k102_221 ?_
                  refine q_putI (pc := 222) k102_222 fp102_87 rfl rfl ?_
                  refine q_iconst (pc := 225) (v := 1) k102_225 (by decide) ?_
                  exact q_zreturn (pc := 226) k102_226 rfl (by decide) ⟨_, rfl, h⟩
                · replace h := h.2 g
                  refine q_iconst (pc := 163) (v := 0) k102_163 (by decide) ?_
                  exact q_zreturn (pc := 164) k102_164 rfl (by decide) ⟨_, rfl, h⟩
              · replace h := h.2 g
                refine q_iconst (pc := 118) (v := 0) k102_118 (by decide) ?_
                exact q_zreturn (pc := 119) k102_119 rfl (by decide) ⟨_, rfl, h⟩
          · replace h := h.2 g
            refine q_iconst (pc := 94) (v := 1) k102_94 (by decide) ?_
            refine q_goto (pc := 95) 99 k102_95 (by decide) ?_
            refine q_istore (pc := 99) [some (.ref 97), some (.int a1), some (.int a2), some (.int (45 + (3 * a2))), some (.int 1), none] k102_99 rfl (by decide) rfl ?_
            refine q_iload (pc := 101) k102_101 rfl ?_
            refine q_if_ne (pc := 103) 120 k102_103 (by decide) (fun _ => ?_) (fun g => absurd g (by decide))
            refine q_iload (pc := 120) k102_120 rfl ?_
            refine q_if_eq (pc := 122) 132 k102_122 (by decide) (fun g => absurd g (by decide)) (fun _ => ?_)
            refine q_iload_n (pc := 125) k102_125 rfl ?_
            refine q_bipush (pc := 126) (v := 97) k102_126 (by decide) ?_
            refine q_isub (pc := 128) k102_128 ?_
            refine q_goto (pc := 129) 136 k102_129 (by decide) ?_
            refine q_istore (pc := 136) [some (.ref 97), some (.int a1), some (.int a2), some (.int (45 + (3 * a2))), some (.int 1), some (.int (a1 - 97))] k102_136 rfl (by decide) rfl ?_
            refine q_iload (pc := 138) k102_138 rfl ?_
            refine q_if_eq (pc := 140) 150 k102_140 (by decide) (fun g => absurd g (by decide)) (fun _ => ?_)
            refine q_aload_n (pc := 143) k102_143 rfl ?_
            refine q_getIv (pc := 144) (v := M 97 7) k102_144 fg102_84 rfl rfl rfl ?_
            refine q_goto (pc := 147) 154 k102_147 (by decide) ?_
            refine q_iload (pc := 154) k102_154 rfl ?_
            refine q_ishr (pc := 156) k102_156 ?_
            refine q_iconst (pc := 157) (v := 1) k102_157 (by decide) ?_
            refine q_iand (pc := 158) k102_158 ?_
            refine q_iconst (pc := 159) (v := 1) k102_159 (by decide) ?_
            refine q_icmp_ne (pc := 160) 165 k102_160 (by decide) (fun g => ?_) (fun g => ?_)
            · replace h := h.1 g
              refine q_aload_n (pc := 165) k102_165 rfl ?_
              refine q_getR (pc := 166) k102_166 fg102_19 rfl rfl ?_
              refine q_iload_n (pc := 169) k102_169 rfl ?_
              refine q_iload (pc := 170) k102_170 rfl ?_
              refine q_if_eq (pc := 172) 179 k102_172 (by decide) (fun g => absurd g (by decide)) (fun _ => ?_)
              refine q_iconst (pc := 175) (v := 2) k102_175 (by decide) ?_
              refine q_goto (pc := 176) 180 k102_176 (by decide) ?_
              refine q_iastv (pc := 180) (k := (Int32.toNatClampNeg (45 + (3 * a2)))) k102_180 rfl h.1 rfl ?_
              replace h := h.2
              refine q_aload_n (pc := 181) k102_181 rfl ?_
              refine q_getR (pc := 182) k102_182 fg102_19 rfl rfl ?_
              refine q_iload_n (pc := 185) k102_185 rfl ?_
              refine q_iconst (pc := 186) (v := 2) k102_186 (by decide) ?_
              refine q_iadd (pc := 187) k102_187 ?_
              refine q_iload (pc := 188) k102_188 rfl ?_
              refine q_iastv (pc := 190) (k := (Int32.toNatClampNeg ((45 + (3 * a2)) + 2))) k102_190 rfl h.1 rfl ?_
              replace h := h.2
              refine q_iload (pc := 191) k102_191 rfl ?_
              refine q_if_eq (pc := 193) 212 k102_193 (by decide) (fun g => absurd g (by decide)) (fun _ => ?_)
              refine q_aload_n (pc := 196) k102_196 rfl ?_
              refine q_dup (pc := 197) k102_197 rfl ?_
              refine q_getIv (pc := 198) (v := M 97 7) k102_198 fg102_84 rfl rfl rfl ?_
              refine q_iconst (pc := 201) (v := 1) k102_201 (by decide) ?_
              refine q_iload (pc := 202) k102_202 rfl ?_
              refine q_ishl (pc := 204) k102_204 ?_
              refine q_ior (pc := 205) k102_205 ?_
              refine q_putI (pc := 206) k102_206 fp102_84 rfl rfl ?_
              refine q_goto (pc := 209) 225 k102_209 (by decide) ?_
              refine q_iconst (pc := 225) (v := 1) k102_225 (by decide) ?_
              exact q_zreturn (pc := 226) k102_226 rfl (by decide) ⟨_, rfl, h⟩
            · replace h := h.2 g
              refine q_iconst (pc := 163) (v := 0) k102_163 (by decide) ?_
              exact q_zreturn (pc := 164) k102_164 rfl (by decide) ⟨_, rfl, h⟩
      · replace h := h.2 g
        refine q_iload_n (pc := 62) k102_62 rfl ?_
        refine q_bipush (pc := 63) (v := 57) k102_63 (by decide) ?_
        refine q_icmp_gt (pc := 65) 82 k102_65 (by decide) (fun g => ?_) (fun g => ?_)
        · replace h := h.1 g
          refine q_iload_n (pc := 82) k102_82 rfl ?_
          refine q_bipush (pc := 83) (v := 97) k102_83 (by decide) ?_
          refine q_icmp_lt (pc := 85) 98 k102_85 (by decide) (fun g => ?_) (fun g => ?_)
          · replace h := h.1 g
            refine q_iconst (pc := 98) (v := 0) k102_98 (by decide) ?_
            refine q_istore (pc := 99) [some (.ref 97), some (.int a1), some (.int a2), some (.int (45 + (3 * a2))), some (.int 0), none] k102_99 rfl (by decide) rfl ?_
            refine q_iload (pc := 101) k102_101 rfl ?_
            refine q_if_ne (pc := 103) 120 k102_103 (by decide) (fun g => absurd g (by decide)) (fun _ => ?_)
            refine q_iload_n (pc := 106) k102_106 rfl ?_
            refine q_bipush (pc := 107) (v := 120) k102_107 (by decide) ?_
            refine q_icmp_lt (pc := 109) 118 k102_109 (by decide) (fun g => ?_) (fun g => ?_)
            · replace h := h.1 g
              refine q_iconst (pc := 118) (v := 0) k102_118 (by decide) ?_
              exact q_zreturn (pc := 119) k102_119 rfl (by decide) ⟨_, rfl, h⟩
            · replace h := h.2 g
              refine q_iload_n (pc := 112) k102_112 rfl ?_
              refine q_bipush (pc := 113) (v := 122) k102_113 (by decide) ?_
              refine q_icmp_le (pc := 115) 120 k102_115 (by decide) (fun g => ?_) (fun g => ?_)
              · replace h := h.1 g
                refine q_iload (pc := 120) k102_120 rfl ?_
                refine q_if_eq (pc := 122) 132 k102_122 (by decide) (fun _ => ?_) (fun g => absurd g (by decide))
                refine q_iload_n (pc := 132) k102_132 rfl ?_
                refine q_bipush (pc := 133) (v := 120) k102_133 (by decide) ?_
                refine q_isub (pc := 135) k102_135 ?_
                refine q_istore (pc := 136) [some (.ref 97), some (.int a1), some (.int a2), some (.int (45 + (3 * a2))), some (.int 0), some (.int (a1 - 120))] k102_136 rfl (by decide) rfl ?_
                refine q_iload (pc := 138) k102_138 rfl ?_
                refine q_if_eq (pc := 140) 150 k102_140 (by decide) (fun _ => ?_) (fun g => absurd g (by decide))
                refine q_aload_n (pc := 150) k102_150 rfl ?_
                refine q_getIv (pc := 151) (v := M 97 8) k102_151 fg102_87 rfl rfl rfl ?_
                refine q_iload (pc := 154) k102_154 rfl ?_
                refine q_ishr (pc := 156) k102_156 ?_
                refine q_iconst (pc := 157) (v := 1) k102_157 (by decide) ?_
                refine q_iand (pc := 158) k102_158 ?_
                refine q_iconst (pc := 159) (v := 1) k102_159 (by decide) ?_
                refine q_icmp_ne (pc := 160) 165 k102_160 (by decide) (fun g => ?_) (fun g => ?_)
                · replace h := h.1 g
                  refine q_aload_n (pc := 165) k102_165 rfl ?_
                  refine q_getR (pc := 166) k102_166 fg102_19 rfl rfl ?_
                  refine q_iload_n (pc := 169) k102_169 rfl ?_
                  refine q_iload (pc := 170) k102_170 rfl ?_
                  refine q_if_eq (pc := 172) 179 k102_172 (by decide) (fun _ => ?_) (fun g => absurd g (by decide))
                  refine q_iconst (pc := 179) (v := 3) k102_179 (by decide) ?_
                  refine q_iastv (pc := 180) (k := (Int32.toNatClampNeg (45 + (3 * a2)))) k102_180 rfl h.1 rfl ?_
                  replace h := h.2
                  refine q_aload_n (pc := 181) k102_181 rfl ?_
                  refine q_getR (pc := 182) k102_182 fg102_19 rfl rfl ?_
                  refine q_iload_n (pc := 185) k102_185 rfl ?_
                  refine q_iconst (pc := 186) (v := 2) k102_186 (by decide) ?_
                  refine q_iadd (pc := 187) k102_187 ?_
                  refine q_iload (pc := 188) k102_188 rfl ?_
                  refine q_iastv (pc := 190) (k := (Int32.toNatClampNeg ((45 + (3 * a2)) + 2))) k102_190 rfl h.1 rfl ?_
                  replace h := h.2
                  refine q_iload (pc := 191) k102_191 rfl ?_
                  refine q_if_eq (pc := 193) 212 k102_193 (by decide) (fun _ => ?_) (fun g => absurd g (by decide))
                  refine q_aload_n (pc := 212) k102_212 rfl ?_
                  refine q_dup (pc := 213) k102_213 rfl ?_
                  refine q_getIv (pc := 214) (v := M 97 8) k102_214 fg102_87 rfl rfl rfl ?_
                  refine q_iconst (pc := 217) (v := 1) k102_217 (by decide) ?_
                  refine q_iload (pc := 218) k102_218 rfl ?_
                  refine q_ishl (pc := 220) k102_220 ?_
                  refine q_ior (pc := 221) k102_221 ?_
                  refine q_putI (pc := 222) k102_222 fp102_87 rfl rfl ?_
                  refine q_iconst (pc := 225) (v := 1) k102_225 (by decide) ?_
                  exact q_zreturn (pc := 226) k102_226 rfl (by decide) ⟨_, rfl, h⟩
                · replace h := h.2 g
                  refine q_iconst (pc := 163) (v := 0) k102_163 (by decide) ?_
                  exact q_zreturn (pc := 164) k102_164 rfl (by decide) ⟨_, rfl, h⟩
              · replace h := h.2 g
                refine q_iconst (pc := 118) (v := 0) k102_118 (by decide) ?_
                exact q_zreturn (pc := 119) k102_119 rfl (by decide) ⟨_, rfl, h⟩
          · replace h := h.2 g
            refine q_iload_n (pc := 88) k102_88 rfl ?_
            refine q_bipush (pc := 89) (v := 99) k102_89 (by decide) ?_
            refine q_icmp_gt (pc := 91) 98 k102_91 (by decide) (fun g => ?_) (fun g => ?_)
            · replace h := h.1 g
              refine q_iconst (pc := 98) (v := 0) k102_98 (by decide) ?_
              refine q_istore (pc := 99) [some (.ref 97), some (.int a1), some (.int a2), some (.int (45 + (3 * a2))), some (.int 0), none] k102_99 rfl (by decide) rfl ?_
              refine q_iload (pc := 101) k102_101 rfl ?_
              refine q_if_ne (pc := 103) 120 k102_103 (by decide) (fun g => absurd g (by decide)) (fun _ => ?_)
              refine q_iload_n (pc := 106) k102_106 rfl ?_
              refine q_bipush (pc := 107) (v := 120) k102_107 (by decide) ?_
              refine q_icmp_lt (pc := 109) 118 k102_109 (by decide) (fun g => ?_) (fun g => ?_)
              · replace h := h.1 g
                refine q_iconst (pc := 118) (v := 0) k102_118 (by decide) ?_
                exact q_zreturn (pc := 119) k102_119 rfl (by decide) ⟨_, rfl, h⟩
              · replace h := h.2 g
                refine q_iload_n (pc := 112) k102_112 rfl ?_
                refine q_bipush (pc := 113) (v := 122) k102_113 (by decide) ?_
                refine q_icmp_le (pc := 115) 120 k102_115 (by decide) (fun g => ?_) (fun g => ?_)
                · replace h := h.1 g
                  refine q_iload (pc := 120) k102_120 rfl ?_
                  refine q_if_eq (pc := 122) 132 k102_122 (by decide) (fun _ => ?_) (fun g => absurd g (by decide))
                  refine q_iload_n (pc := 132) k102_132 rfl ?_
                  refine q_bipush (pc := 133) (v := 120) k102_133 (by decide) ?_
                  refine q_isub (pc := 135) k102_135 ?_
                  refine q_istore (pc := 136) [some (.ref 97), some (.int a1), some (.int a2), some (.int (45 + (3 * a2))), some (.int 0), some (.int (a1 - 120))] k102_136 rfl (by decide) rfl ?_
                  refine q_iload (pc := 138) k102_138 rfl ?_
                  refine q_if_eq (pc := 140) 150 k102_140 (by decide) (fun _ => ?_) (fun g => absurd g (by decide))
                  refine q_aload_n (pc := 150) k102_150 rfl ?_
                  refine q_getIv (pc := 151) (v := M 97 8) k102_151 fg102_87 rfl rfl rfl ?_
                  refine q_iload (pc := 154) k102_154 rfl ?_
                  refine q_ishr (pc := 156) k102_156 ?_
                  refine q_iconst (pc := 157) (v := 1) k102_157 (by decide) ?_
                  refine q_iand (pc := 158) k102_158 ?_
                  refine q_iconst (pc := 159) (v := 1) k102_159 (by decide) ?_
                  refine q_icmp_ne (pc := 160) 165 k102_160 (by decide) (fun g => ?_) (fun g => ?_)
                  · replace h := h.1 g
                    refine q_aload_n (pc := 165) k102_165 rfl ?_
                    refine q_getR (pc := 166) k102_166 fg102_19 rfl rfl ?_
                    refine q_iload_n (pc := 169) k102_169 rfl ?_
                    refine q_iload (pc := 170) k102_170 rfl ?_
                    refine q_if_eq (pc := 172) 179 k102_172 (by decide) (fun _ => ?_) (fun g => absurd g (by decide))
                    refine q_iconst (pc := 179) (v := 3) k102_179 (by decide) ?_
                    refine q_iastv (pc := 180) (k := (Int32.toNatClampNeg (45 + (3 * a2)))) k102_180 rfl h.1 rfl ?_
                    replace h := h.2
                    refine q_aload_n (pc := 181) k102_181 rfl ?_
                    refine q_getR (pc := 182) k102_182 fg102_19 rfl rfl ?_
                    refine q_iload_n (pc := 185) k102_185 rfl ?_
                    refine q_iconst (pc := 186) (v := 2) k102_186 (by decide) ?_
                    refine q_iadd (pc := 187) k102_187 ?_
                    refine q_iload (pc := 188) k102_188 rfl ?_
                    refine q_iastv (pc := 190) (k := (Int32.toNatClampNeg ((45 + (3 * a2)) + 2))) k102_190 rfl h.1 rfl ?_
                    replace h := h.2
                    refine q_iload (pc := 191) k102_191 rfl ?_
                    refine q_if_eq (pc := 193) 212 k102_193 (by decide) (fun _ => ?_) (fun g => absurd g (by decide))
                    refine q_aload_n (pc := 212) k102_212 rfl ?_
                    refine q_dup (pc := 213) k102_213 rfl ?_
                    refine q_getIv (pc := 214) (v := M 97 8) k102_214 fg102_87 rfl rfl rfl ?_
                    refine q_iconst (pc := 217) (v := 1) k102_217 (by decide) ?_
                    refine q_iload (pc := 218) k102_218 rfl ?_
                    refine q_ishl (pc := 220) k102_220 ?_
                    refine q_ior (pc := 221) k102_221 ?_
                    refine q_putI (pc := 222) k102_222 fp102_87 rfl rfl ?_
                    refine q_iconst (pc := 225) (v := 1) k102_225 (by decide) ?_
                    exact q_zreturn (pc := 226) k102_226 rfl (by decide) ⟨_, rfl, h⟩
                  · replace h := h.2 g
                    refine q_iconst (pc := 163) (v := 0) k102_163 (by decide) ?_
                    exact q_zreturn (pc := 164) k102_164 rfl (by decide) ⟨_, rfl, h⟩
                · replace h := h.2 g
                  refine q_iconst (pc := 118) (v := 0) k102_118 (by decide) ?_
                  exact q_zreturn (pc := 119) k102_119 rfl (by decide) ⟨_, rfl, h⟩
            · replace h := h.2 g
              refine q_iconst (pc := 94) (v := 1) k102_94 (by decide) ?_
              refine q_goto (pc := 95) 99 k102_95 (by decide) ?_
              refine q_istore (pc := 99) [some (.ref 97), some (.int a1), some (.int a2), some (.int (45 + (3 * a2))), some (.int 1), none] k102_99 rfl (by decide) rfl ?_
              refine q_iload (pc := 101) k102_101 rfl ?_
              refine q_if_ne (pc := 103) 120 k102_103 (by decide) (fun _ => ?_) (fun g => absurd g (by decide))
              refine q_iload (pc := 120) k102_120 rfl ?_
              refine q_if_eq (pc := 122) 132 k102_122 (by decide) (fun g => absurd g (by decide)) (fun _ => ?_)
              refine q_iload_n (pc := 125) k102_125 rfl ?_
              refine q_bipush (pc := 126) (v := 97) k102_126 (by decide) ?_
              refine q_isub (pc := 128) k102_128 ?_
              refine q_goto (pc := 129) 136 k102_129 (by decide) ?_
              refine q_istore (pc := 136) [some (.ref 97), some (.int a1), some (.int a2), some (.int (45 + (3 * a2))), some (.int 1), some (.int (a1 - 97))] k102_136 rfl (by decide) rfl ?_
              refine q_iload (pc := 138) k102_138 rfl ?_
              refine q_if_eq (pc := 140) 150 k102_140 (by decide) (fun g => absurd g (by decide)) (fun _ => ?_)
              refine q_aload_n (pc := 143) k102_143 rfl ?_
              refine q_getIv (pc := 144) (v := M 97 7) k102_144 fg102_84 rfl rfl rfl ?_
              refine q_goto (pc := 147) 154 k102_147 (by decide) ?_
              refine q_iload (pc := 154) k102_154 rfl ?_
              refine q_ishr (pc := 156) k102_156 ?_
              refine q_iconst (pc := 157) (v := 1) k102_157 (by decide) ?_
              refine q_iand (pc := 158) k102_158 ?_
              refine q_iconst (pc := 159) (v := 1) k102_159 (by decide) ?_
              refine q_icmp_ne (pc := 160) 165 k102_160 (by decide) (fun g => ?_) (fun g => ?_)
              · replace h := h.1 g
                refine q_aload_n (pc := 165) k102_165 rfl ?_
                refine q_getR (pc := 166) k102_166 fg102_19 rfl rfl ?_
                refine q_iload_n (pc := 169) k102_169 rfl ?_
                refine q_iload (pc := 170) k102_170 rfl ?_
                refine q_if_eq (pc := 172) 179 k102_172 (by decide) (fun g => absurd g (by decide)) (fun _ => ?_)
                refine q_iconst (pc := 175) (v := 2) k102_175 (by decide) ?_
                refine q_goto (pc := 176) 180 k102_176 (by decide) ?_
                refine q_iastv (pc := 180) (k := (Int32.toNatClampNeg (45 + (3 * a2)))) k102_180 rfl h.1 rfl ?_
                replace h := h.2
                refine q_aload_n (pc := 181) k102_181 rfl ?_
                refine q_getR (pc := 182) k102_182 fg102_19 rfl rfl ?_
                refine q_iload_n (pc := 185) k102_185 rfl ?_
                refine q_iconst (pc := 186) (v := 2) k102_186 (by decide) ?_
                refine q_iadd (pc := 187) k102_187 ?_
                refine q_iload (pc := 188) k102_188 rfl ?_
                refine q_iastv (pc := 190) (k := (Int32.toNatClampNeg ((45 + (3 * a2)) + 2))) k102_190 rfl h.1 rfl ?_
                replace h := h.2
                refine q_iload (pc := 191) k102_191 rfl ?_
                refine q_if_eq (pc := 193) 212 k102_193 (by decide) (fun g => absurd g (by decide)) (fun _ => ?_)
                refine q_aload_n (pc := 196) k102_196 rfl ?_
                refine q_dup (pc := 197) k102_197 rfl ?_
                refine q_getIv (pc := 198) (v := M 97 7) k102_198 fg102_84 rfl rfl rfl ?_
                refine q_iconst (pc := 201) (v := 1) k102_201 (by decide) ?_
                refine q_iload (pc := 202) k102_202 rfl ?_
                refine q_ishl (pc := 204) k102_204 ?_
                refine q_ior (pc := 205) k102_205 ?_
                refine q_putI (pc := 206) k102_206 fp102_84 rfl rfl ?_
                refine q_goto (pc := 209) 225 k102_209 (by decide) ?_
                refine q_iconst (pc := 225) (v := 1) k102_225 (by decide) ?_
                exact q_zreturn (pc := 226) k102_226 rfl (by decide) ⟨_, rfl, h⟩
              · replace h := h.2 g
                refine q_iconst (pc := 163) (v := 0) k102_163 (by decide) ?_
                exact q_zreturn (pc := 164) k102_164 rfl (by decide) ⟨_, rfl, h⟩
        · replace h := h.2 g
          refine q_aload_n (pc := 68) k102_68 rfl ?_
          refine q_getR (pc := 69) k102_69 fg102_19 rfl rfl ?_
          refine q_iload_n (pc := 72) k102_72 rfl ?_
          refine q_iconst (pc := 73) (v := 1) k102_73 (by decide) ?_
          refine q_iadd (pc := 74) k102_74 ?_
          refine q_iload_n (pc := 75) k102_75 rfl ?_
          refine q_bipush (pc := 76) (v := 48) k102_76 (by decide) ?_
          refine q_isub (pc := 78) k102_78 ?_
          refine q_iastv (pc := 79) (k := (Int32.toNatClampNeg ((45 + (3 * a2)) + 1))) k102_79 rfl h.1 rfl ?_
          replace h := h.2
          refine q_iconst (pc := 80) (v := 1) k102_80 (by decide) ?_
          exact q_zreturn (pc := 81) k102_81 rfl (by decide) ⟨_, rfl, h⟩
    · replace h := h.2 g
      refine q_aload_n (pc := 47) k102_47 rfl ?_
      refine q_getR (pc := 48) k102_48 fg102_19 rfl rfl ?_
      refine q_iload_n (pc := 51) k102_51 rfl ?_
      refine q_iconst (pc := 52) (v := 1) k102_52 (by decide) ?_
      refine q_iastv (pc := 53) (k := (Int32.toNatClampNeg (45 + (3 * a2)))) k102_53 rfl h.1 rfl ?_
      replace h := h.2
      refine q_iconst (pc := 54) (v := 1) k102_54 (by decide) ?_
      exact q_zreturn (pc := 55) k102_55 rfl (by decide) ⟨_, rfl, h⟩
  · replace h := h.2 g
    refine q_iconst (pc := 39) (v := 1) k102_39 (by decide) ?_
    exact q_zreturn (pc := 40) k102_40 rfl (by decide) ⟨_, rfl, h⟩
