set_option maxRecDepth 20000 in
theorem vc151 {X : Nat × (Nat → Int32)} {d : Nat} {M : q_M} {K : Int32 → q_M → Prop} (h : q_Ex X d 151 4 [some (.ref 97), some (.int 0), some (.int 0)] [] M (q_ri K)) : q_Ci X d 151 [.ref 97] M K := by
  show q_Ex X d 151 0 [some (.ref 97), none, none] [] M (q_ri K)
  refine q_iconst (pc := 0) (v := 0) k151_0 (by decide) ?_
  refine q_istore_n (pc := 1) [some (.ref 97), some (.int 0), none] k151_1 rfl (by decide) rfl ?_
  refine q_iconst (pc := 2) (v := 0) k151_2 (by decide) ?_
  refine q_istore_n (pc := 3) [some (.ref 97), some (.int 0), some (.int 0)] k151_3 rfl (by decide) rfl ?_
  exact h
set_option maxRecDepth 20000 in
theorem vc151_p4 {X : Nat × (Nat → Int32)} {d : Nat} {M : q_M} {a1 a2 : Int32} {K : Int32 → q_M → Prop} (h : ((3 ≤ a2) → (K a1 (q_set M 99 7 0))) ∧ ((¬ 3 ≤ a2) → (vp_in ((12 : Int32) + a2) 135 ∧ (vp_in ((12 : Int32) + a2) 135 ∧ (q_Ex X d 151 4 [some (.ref 97), some (.int (a1 + (M 99 (Int32.toNatClampNeg ((12 : Int32) + a2))))), some (.int (a2 + 1))] [] (q_set M 99 (Int32.toNatClampNeg ((12 : Int32) + a2)) 0) (q_ri K)))))) : q_Ex X d 151 4 [some (.ref 97), some (.int a1), some (.int a2)] [] M (q_ri K) := by
  refine q_iload_n (pc := 4) k151_4 rfl ?_
  refine q_iconst (pc := 5) (v := 3) k151_5 (by decide) ?_
  refine q_icmp_ge (pc := 6) 37 k151_6 (by decide) (fun g1 => ?_) (fun g1 => ?_)
  · replace h := h.1 g1
    refine q_aload_n (pc := 37) k151_37 rfl ?_
    refine q_getR (pc := 38) k151_38 fg151_13 rfl rfl ?_
    refine q_bipush (pc := 41) (v := 7) k151_41 (by decide) ?_
    refine q_iconst (pc := 43) (v := 0) k151_43 (by decide) ?_
    refine q_iastv (pc := 44) (k := 7) k151_44 rfl (q_vin (by decide)) rfl ?_
    refine q_iload_n (pc := 45) k151_45 rfl ?_
    exact q_ireturn (pc := 46) k151_46 rfl ⟨_, rfl, h⟩
  · replace h := h.2 g1
    refine q_iload_n (pc := 9) k151_9 rfl ?_
    refine q_aload_n (pc := 10) k151_10 rfl ?_
    refine q_getR (pc := 11) k151_11 fg151_13 rfl rfl ?_
    refine q_bipush (pc := 14) (v := 12) k151_14 (by decide) ?_
    refine q_iload_n (pc := 16) k151_16 rfl ?_
    refine q_iadd (pc := 17) k151_17 ?_
    refine q_ialdv (pc := 18) (v := M 99 (Int32.toNatClampNeg ((12 : Int32) + a2))) k151_18 rfl h.1 rfl ?_
    replace h := h.2
    refine q_iadd (pc := 19) k151_19 ?_
    refine q_istore_n (pc := 20) [some (.ref 97), some (.int (a1 + (M 99 (Int32.toNatClampNeg ((12 : Int32) + a2))))), some (.int a2)] k151_20 rfl (by decide) rfl ?_
    refine q_aload_n (pc := 21) k151_21 rfl ?_
    refine q_getR (pc := 22) k151_22 fg151_13 rfl rfl ?_
    refine q_bipush (pc := 25) (v := 12) k151_25 (by decide) ?_
    refine q_iload_n (pc := 27) k151_27 rfl ?_
    refine q_iadd (pc := 28) k151_28 ?_
    refine q_iconst (pc := 29) (v := 0) k151_29 (by decide) ?_
    refine q_iastv (pc := 30) (k := (Int32.toNatClampNeg ((12 : Int32) + a2))) k151_30 rfl h.1 rfl ?_
    replace h := h.2
    refine q_iinc (pc := 31) (v := a2 + 1) [some (.ref 97), some (.int (a1 + (M 99 (Int32.toNatClampNeg ((12 : Int32) + a2))))), some (.int (a2 + 1))] k151_31 rfl rfl rfl (by decide) rfl ?_
    refine q_goto (pc := 34) 4 k151_34 (by decide) ?_
    exact h
set_option maxRecDepth 20000 in
theorem vc152 {X : Nat × (Nat → Int32)} {d : Nat} (hd : 0 < d) {M : q_M} {K : Int32 → q_M → Prop} (h : q_Cv X (d - 1) 94 [.ref 99, .ref 100] M (fun M1 => q_Ci X (d - 1) 95 [.ref 97] (q_set M1 97 4 1) (fun r3 M2 => K r3 M2))) : q_Ci X d 152 [.ref 97] M K := by
  show q_Ex X d 152 0 [some (.ref 97)] [] M (q_ri K)
  refine q_aload_n (pc := 0) k152_0 rfl ?_
  refine q_getR (pc := 1) k152_1 fg152_13 rfl rfl ?_
  refine q_aload_n (pc := 4) k152_4 rfl ?_
  refine q_getR (pc := 5) k152_5 fg152_16 rfl rfl ?_
  refine q_invS (pc := 8) (As := [.ref 99, .ref 100]) (st := []) k152_8 lm152_202 os94 rfl rfl (q_cat rfl) (Nat.le_of_ble_eq_true rfl) hd h ?_
  rintro v M1 ⟨rfl, h⟩
  show q_Ex X d 152 (8 + 3) [some (.ref 97)] [] M1 _
  refine q_aload_n (pc := 11) k152_11 rfl ?_
  refine q_iconst (pc := 12) (v := 1) k152_12 (by decide) ?_
  refine q_putZ (pc := 13) k152_13 fp152_215 rfl rfl (by decide) ?_
  refine q_aload_n (pc := 16) k152_16 rfl ?_
  refine q_invV (pc := 17) (As := []) (st := []) k152_17 lm152_64 ov95 rfl rfl rfl (q_cat rfl) (Nat.le_of_ble_eq_true rfl) hd h ?_
  rintro v M2 ⟨r3, rfl, h⟩
  show q_Ex X d 152 (17 + 3) [some (.ref 97)] [.int r3] M2 _
  exact q_ireturn (pc := 20) k152_20 rfl ⟨_, rfl, h⟩
set_option maxRecDepth 20000 in
theorem vc153 {X : Nat × (Nat → Int32)} {d : Nat} (hd : 0 < d) {M : q_M} {K : Int32 → q_M → Prop} (h : ((¬ (M 97 4) = 0) → (q_Cv X (d - 1) 94 [.ref 100, .ref 99] M (fun M2 => q_Ci X (d - 1) 95 [.ref 97] M2 (fun r4 M3 => K r4 M3)))) ∧ (((M 97 4) = 0) → (q_Ci X (d - 1) 91 [.ref 97, .int (-3)] M (fun r6 M5 => K r6 M5)))) : q_Ci X d 153 [.ref 97] M K := by
  show q_Ex X d 153 0 [some (.ref 97)] [] M (q_ri K)
  refine q_aload_n (pc := 0) k153_0 rfl ?_
  refine q_getIv (pc := 1) (v := M 97 4) k153_1 fg153_215 rfl rfl rfl ?_
  refine q_if_ne (pc := 4) 14 k153_4 (by decide) (fun g1 => ?_) (fun g1 => ?_)
  · replace h := h.1 g1
    refine q_aload_n (pc := 14) k153_14 rfl ?_
    refine q_getR (pc := 15) k153_15 fg153_16 rfl rfl ?_
    refine q_aload_n (pc := 18) k153_18 rfl ?_
    refine q_getR (pc := 19) k153_19 fg153_13 rfl rfl ?_
    refine q_invS (pc := 22) (As := [.ref 100, .ref 99]) (st := []) k153_22 lm153_202 os94 rfl rfl (q_cat rfl) (Nat.le_of_ble_eq_true rfl) hd h ?_
    rintro v M2 ⟨rfl, h⟩
    show q_Ex X d 153 (22 + 3) [some (.ref 97)] [] M2 _
    refine q_aload_n (pc := 25) k153_25 rfl ?_
    refine q_invV (pc := 26) (As := []) (st := []) k153_26 lm153_64 ov95 rfl rfl rfl (q_cat rfl) (Nat.le_of_ble_eq_true rfl) hd h ?_
    rintro v M3 ⟨r4, rfl, h⟩
    show q_Ex X d 153 (26 + 3) [some (.ref 97)] [.int r4] M3 _
    exact q_ireturn (pc := 29) k153_29 rfl ⟨_, rfl, h⟩
  · replace h := h.2 g1
    refine q_aload_n (pc := 7) k153_7 rfl ?_
    refine q_bipush (pc := 8) (v := (-3)) k153_8 (by decide) ?_
    refine q_invV (pc := 10) (As := [.int (-3)]) (st := []) k153_10 lm153_80 ov91 rfl rfl rfl (q_cat rfl) (Nat.le_of_ble_eq_true rfl) hd h ?_
    rintro v M5 ⟨r6, rfl, h⟩
    show q_Ex X d 153 (10 + 3) [some (.ref 97)] [.int r6] M5 _
    exact q_ireturn (pc := 13) k153_13 rfl ⟨_, rfl, h⟩
set_option maxRecDepth 20000 in
theorem vc154 {X : Nat × (Nat → Int32)} {d : Nat} (hd : 0 < d) {M : q_M} {a1 : Int32} {K : Int32 → q_M → Prop} (h : ((a1 ≤ 10) → ((a1 = 0 → (vp_in a1 135 ∧ (K (M 99 (Int32.toNatClampNeg a1)) M))) ∧ (a1 = 1 → (vp_in a1 135 ∧ (K (M 99 (Int32.toNatClampNeg a1)) M))) ∧ (a1 = 2 → (vp_in a1 135 ∧ (K (M 99 (Int32.toNatClampNeg a1)) M))) ∧ (a1 = 3 → (q_Ex X d 154 81 [some (.ref 97), none, some (.int 0), some (.int 0)] [] M (q_ri K))) ∧ (a1 = 4 → (K (M 99 7) M)) ∧ (a1 = 5 → (K (M 97 6) M)) ∧ (a1 = 6 → (K (M 99 3) M)) ∧ (a1 = 7 → (q_Ci X (d - 1) 107 [.ref 97] M (fun r3 M2 => K r3 M2))) ∧ ((¬ a1 = 0 ∧ ¬ a1 = 1 ∧ ¬ a1 = 2 ∧ ¬ a1 = 3 ∧ ¬ a1 = 4 ∧ ¬ a1 = 5 ∧ ¬ a1 = 6 ∧ ¬ a1 = 7) → (K (-9) M)))) ∧ ((¬ a1 ≤ 10) → (((17 ≤ a1) → ((a1 = 0 → (vp_in a1 135 ∧ (K (M 99 (Int32.toNatClampNeg a1)) M))) ∧ (a1 = 1 → (vp_in a1 135 ∧ (K (M 99 (Int32.toNatClampNeg a1)) M))) ∧ (a1 = 2 → (vp_in a1 135 ∧ (K (M 99 (Int32.toNatClampNeg a1)) M))) ∧ (a1 = 3 → (q_Ex X d 154 81 [some (.ref 97), none, some (.int 0), some (.int 0)] [] M (q_ri K))) ∧ (a1 = 4 → (K (M 99 7) M)) ∧ (a1 = 5 → (K (M 97 6) M)) ∧ (a1 = 6 → (K (M 99 3) M)) ∧ (a1 = 7 → (q_Ci X (d - 1) 107 [.ref 97] M (fun r6 M5 => K r6 M5))) ∧ ((¬ a1 = 0 ∧ ¬ a1 = 1 ∧ ¬ a1 = 2 ∧ ¬ a1 = 3 ∧ ¬ a1 = 4 ∧ ¬ a1 = 5 ∧ ¬ a1 = 6 ∧ ¬ a1 = 7) → (K (-9) M)))) ∧ ((¬ 17 ≤ a1) → (vp_in (a1 - 10) 7 ∧ (K (M 98 (Int32.toNatClampNeg (a1 - 10))) M)))))) : q_Ci X d 154 [.ref 97, .int a1] M K := by
  show q_Ex X d 154 0 [some (.ref 97), some (.int a1), none, none] [] M (q_ri K)
  refine q_iload_n (pc := 0) k154_0 rfl ?_
  refine q_bipush (pc := 1) (v := 10) k154_1 (by decide) ?_
  refine q_icmp_le (pc := 3) 22 k154_3 (by decide) (fun g1 => ?_) (fun g1 => ?_)
  · replace h := h.1 g1
    refine q_iconst (pc := 22) (v := 0) k154_22 (by decide) ?_
    refine q_istore_n (pc := 23) [some (.ref 97), some (.int a1), some (.int 0), none] k154_23 rfl (by decide) rfl ?_
    refine q_iload_n (pc := 24) k154_24 rfl ?_
    obtain ⟨e0, e1, e2, e3, e4, e5, e6, e7, e999⟩ := h
    by_cases g0 : a1 = 0
    · have h := e0 g0
      refine q_tsIn (pc := 25) 72 k154_25 (off := 47) (by rw [g0]; decide) (by rw [g0]; decide) (by rw [g0]; rfl) (by decide) ?_
      refine q_aload_n (pc := 72) k154_72 rfl ?_
      refine q_getR (pc := 73) k154_73 fg154_13 rfl rfl ?_
      refine q_iload_n (pc := 76) k154_76 rfl ?_
      refine q_ialdv (pc := 77) (v := M 99 (Int32.toNatClampNeg a1)) k154_77 rfl h.1 rfl ?_
      replace h := h.2
      exact q_ireturn (pc := 78) k154_78 rfl ⟨_, rfl, h⟩
    by_cases g1 : a1 = 1
    · have h := e1 g1
      refine q_tsIn (pc := 25) 72 k154_25 (off := 47) (by rw [g1]; decide) (by rw [g1]; decide) (by rw [g1]; rfl) (by decide) ?_
      refine q_aload_n (pc := 72) k154_72 rfl ?_
      refine q_getR (pc := 73) k154_73 fg154_13 rfl rfl ?_
      refine q_iload_n (pc := 76) k154_76 rfl ?_
      refine q_ialdv (pc := 77) (v := M 99 (Int32.toNatClampNeg a1)) k154_77 rfl h.1 rfl ?_
      replace h := h.2
      exact q_ireturn (pc := 78) k154_78 rfl ⟨_, rfl, h⟩
    by_cases g2 : a1 = 2
    · have h := e2 g2
      refine q_tsIn (pc := 25) 72 k154_25 (off := 47) (by rw [g2]; decide) (by rw [g2]; decide) (by rw [g2]; rfl) (by decide) ?_
      refine q_aload_n (pc := 72) k154_72 rfl ?_
      refine q_getR (pc := 73) k154_73 fg154_13 rfl rfl ?_
      refine q_iload_n (pc := 76) k154_76 rfl ?_
      refine q_ialdv (pc := 77) (v := M 99 (Int32.toNatClampNeg a1)) k154_77 rfl h.1 rfl ?_
      replace h := h.2
      exact q_ireturn (pc := 78) k154_78 rfl ⟨_, rfl, h⟩
    by_cases g3 : a1 = 3
    · have h := e3 g3
      refine q_tsIn (pc := 25) 79 k154_25 (off := 54) (by rw [g3]; decide) (by rw [g3]; decide) (by rw [g3]; rfl) (by decide) ?_
      refine q_iconst (pc := 79) (v := 0) k154_79 (by decide) ?_
      refine q_istore_n (pc := 80) [some (.ref 97), some (.int a1), some (.int 0), some (.int 0)] k154_80 rfl (by decide) rfl ?_
      exact q_forget [some (.ref 97), none, some (.int 0), some (.int 0)] (q_subOk (And.intro rfl (And.intro rfl (And.intro rfl (trivial))))) h
    by_cases g4 : a1 = 4
    · have h := e4 g4
      refine q_tsIn (pc := 25) 114 k154_25 (off := 89) (by rw [g4]; decide) (by rw [g4]; decide) (by rw [g4]; rfl) (by decide) ?_
      refine q_aload_n (pc := 114) k154_114 rfl ?_
      refine q_getR (pc := 115) k154_115 fg154_13 rfl rfl ?_
      refine q_bipush (pc := 118) (v := 7) k154_118 (by decide) ?_
      refine q_ialdv (pc := 120) (v := M 99 7) k154_120 rfl (q_vin (by decide)) rfl ?_
      exact q_ireturn (pc := 121) k154_121 rfl ⟨_, rfl, h⟩
    by_cases g5 : a1 = 5
    · have h := e5 g5
      refine q_tsIn (pc := 25) 122 k154_25 (off := 97) (by rw [g5]; decide) (by rw [g5]; decide) (by rw [g5]; rfl) (by decide) ?_
      refine q_aload_n (pc := 122) k154_122 rfl ?_
      refine q_getIv (pc := 123) (v := M 97 6) k154_123 fg154_76 rfl rfl rfl ?_
      exact q_ireturn (pc := 126) k154_126 rfl ⟨_, rfl, h⟩
    by_cases g6 : a1 = 6
    · have h := e6 g6
      refine q_tsIn (pc := 25) 127 k154_25 (off := 102) (by rw [g6]; decide) (by rw [g6]; decide) (by rw [g6]; rfl) (by decide) ?_
      refine q_aload_n (pc := 127) k154_127 rfl ?_
      refine q_getR (pc := 128) k154_128 fg154_13 rfl rfl ?_
      refine q_iconst (pc := 131) (v := 3) k154_131 (by decide) ?_
      refine q_ialdv (pc := 132) (v := M 99 3) k154_132 rfl (q_vin (by decide)) rfl ?_
      exact q_ireturn (pc := 133) k154_133 rfl ⟨_, rfl, h⟩
    by_cases g7 : a1 = 7
    · have h := e7 g7
      refine q_tsIn (pc := 25) 134 k154_25 (off := 109) (by rw [g7]; decide) (by rw [g7]; decide) (by rw [g7]; rfl) (by decide) ?_
      refine q_aload_n (pc := 134) k154_134 rfl ?_
      refine q_invV (pc := 135) (As := []) (st := []) k154_135 lm154_103 ov107 rfl rfl rfl (q_cat rfl) (Nat.le_of_ble_eq_true rfl) hd h ?_
      rintro v M2 ⟨r3, rfl, h⟩
      show q_Ex X d 154 (135 + 3) [some (.ref 97), some (.int a1), some (.int 0), none] [.int r3] M2 _
      exact q_ireturn (pc := 138) k154_138 rfl ⟨_, rfl, h⟩
    have h := e999 ⟨g0, g1, g2, g3, g4, g5, g6, g7⟩
    refine q_tsOut (pc := 25) 139 k154_25 (by have i0 := lv_neT g0 (a := 0) rfl; have i1 := lv_neT g1 (a := 1) rfl; have i2 := lv_neT g2 (a := 2) rfl; have i3 := lv_neT g3 (a := 3) rfl; have i4 := lv_neT g4 (a := 4) rfl; have i5 := lv_neT g5 (a := 5) rfl; have i6 := lv_neT g6 (a := 6) rfl; have i7 := lv_neT g7 (a := 7) rfl; omega) (by decide) ?_
    refine q_bipush (pc := 139) (v := (-9)) k154_139 (by decide) ?_
    exact q_ireturn (pc := 141) k154_141 rfl ⟨_, rfl, h⟩
  · replace h := h.2 g1
    refine q_iload_n (pc := 6) k154_6 rfl ?_
    refine q_bipush (pc := 7) (v := 17) k154_7 (by decide) ?_
    refine q_icmp_ge (pc := 9) 22 k154_9 (by decide) (fun g4 => ?_) (fun g4 => ?_)
    · replace h := h.1 g4
      refine q_iconst (pc := 22) (v := 0) k154_22 (by decide) ?_
      refine q_istore_n (pc := 23) [some (.ref 97), some (.int a1), some (.int 0), none] k154_23 rfl (by decide) rfl ?_
      refine q_iload_n (pc := 24) k154_24 rfl ?_
      obtain ⟨e0, e1, e2, e3, e4, e5, e6, e7, e999⟩ := h
      by_cases g0 : a1 = 0
      · have h := e0 g0
        refine q_tsIn (pc := 25) 72 k154_25 (off := 47) (by rw [g0]; decide) (by rw [g0]; decide) (by rw [g0]; rfl) (by decide) ?_
        refine q_aload_n (pc := 72) k154_72 rfl ?_
        refine q_getR (pc := 73) k154_73 fg154_13 rfl rfl ?_
        refine q_iload_n (pc := 76) k154_76 rfl ?_
        refine q_ialdv (pc := 77) (v := M 99 (Int32.toNatClampNeg a1)) k154_77 rfl h.1 rfl ?_
        replace h := h.2
        exact q_ireturn (pc := 78) k154_78 rfl ⟨_, rfl, h⟩
      by_cases g1 : a1 = 1
      · have h := e1 g1
        refine q_tsIn (pc := 25) 72 k154_25 (off := 47) (by rw [g1]; decide) (by rw [g1]; decide) (by rw [g1]; rfl) (by decide) ?_
        refine q_aload_n (pc := 72) k154_72 rfl ?_
        refine q_getR (pc := 73) k154_73 fg154_13 rfl rfl ?_
        refine q_iload_n (pc := 76) k154_76 rfl ?_
        refine q_ialdv (pc := 77) (v := M 99 (Int32.toNatClampNeg a1)) k154_77 rfl h.1 rfl ?_
        replace h := h.2
        exact q_ireturn (pc := 78) k154_78 rfl ⟨_, rfl, h⟩
      by_cases g2 : a1 = 2
      · have h := e2 g2
        refine q_tsIn (pc := 25) 72 k154_25 (off := 47) (by rw [g2]; decide) (by rw [g2]; decide) (by rw [g2]; rfl) (by decide) ?_
        refine q_aload_n (pc := 72) k154_72 rfl ?_
        refine q_getR (pc := 73) k154_73 fg154_13 rfl rfl ?_
        refine q_iload_n (pc := 76) k154_76 rfl ?_
        refine q_ialdv (pc := 77) (v := M 99 (Int32.toNatClampNeg a1)) k154_77 rfl h.1 rfl ?_
        replace h := h.2
        exact q_ireturn (pc := 78) k154_78 rfl ⟨_, rfl, h⟩
      by_cases g3 : a1 = 3
      · have h := e3 g3
        refine q_tsIn (pc := 25) 79 k154_25 (off := 54) (by rw [g3]; decide) (by rw [g3]; decide) (by rw [g3]; rfl) (by decide) ?_
        refine q_iconst (pc := 79) (v := 0) k154_79 (by decide) ?_
        refine q_istore_n (pc := 80) [some (.ref 97), some (.int a1), some (.int 0), some (.int 0)] k154_80 rfl (by decide) rfl ?_
        exact q_forget [some (.ref 97), none, some (.int 0), some (.int 0)] (q_subOk (And.intro rfl (And.intro rfl (And.intro rfl (trivial))))) h
      by_cases g4 : a1 = 4
      · have h := e4 g4
        refine q_tsIn (pc := 25) 114 k154_25 (off := 89) (by rw [g4]; decide) (by rw [g4]; decide) (by rw [g4]; rfl) (by decide) ?_
        refine q_aload_n (pc := 114) k154_114 rfl ?_
        refine q_getR (pc := 115) k154_115 fg154_13 rfl rfl ?_
        refine q_bipush (pc := 118) (v := 7) k154_118 (by decide) ?_
        refine q_ialdv (pc := 120) (v := M 99 7) k154_120 rfl (q_vin (by decide)) rfl ?_
        exact q_ireturn (pc := 121) k154_121 rfl ⟨_, rfl, h⟩
      by_cases g5 : a1 = 5
      · have h := e5 g5
        refine q_tsIn (pc := 25) 122 k154_25 (off := 97) (by rw [g5]; decide) (by rw [g5]; decide) (by rw [g5]; rfl) (by decide) ?_
        refine q_aload_n (pc := 122) k154_122 rfl ?_
        refine q_getIv (pc := 123) (v := M 97 6) k154_123 fg154_76 rfl rfl rfl ?_
        exact q_ireturn (pc := 126) k154_126 rfl ⟨_, rfl, h⟩
      by_cases g6 : a1 = 6
      · have h := e6 g6
        refine q_tsIn (pc := 25) 127 k154_25 (off := 102) (by rw [g6]; decide) (by rw [g6]; decide) (by rw [g6]; rfl) (by decide) ?_
        refine q_aload_n (pc := 127) k154_127 rfl ?_
        refine q_getR (pc := 128) k154_128 fg154_13 rfl rfl ?_
        refine q_iconst (pc := 131) (v := 3) k154_131 (by decide) ?_
        refine q_ialdv (pc := 132) (v := M 99 3) k154_132 rfl (q_vin (by decide)) rfl ?_
        exact q_ireturn (pc := 133) k154_133 rfl ⟨_, rfl, h⟩
      by_cases g7 : a1 = 7
      · have h := e7 g7
        refine q_tsIn (pc := 25) 134 k154_25 (off := 109) (by rw [g7]; decide) (by rw [g7]; decide) (by rw [g7]; rfl) (by decide) ?_
        refine q_aload_n (pc := 134) k154_134 rfl ?_
        refine q_invV (pc := 135) (As := []) (st := []) k154_135 lm154_103 ov107 rfl rfl rfl (q_cat rfl) (Nat.le_of_ble_eq_true rfl) hd h ?_
        rintro v M5 ⟨r6, rfl, h⟩
        show q_Ex X d 154 (135 + 3) [some (.ref 97), some (.int a1), some (.int 0), none] [.int r6] M5 _
        exact q_ireturn (pc := 138) k154_138 rfl ⟨_, rfl, h⟩
      have h := e999 ⟨g0, g1, g2, g3, g4, g5, g6, g7⟩
      refine q_tsOut (pc := 25) 139 k154_25 (by have i0 := lv_neT g0 (a := 0) rfl; have i1 := lv_neT g1 (a := 1) rfl; have i2 := lv_neT g2 (a := 2) rfl; have i3 := lv_neT g3 (a := 3) rfl; have i4 := lv_neT g4 (a := 4) rfl; have i5 := lv_neT g5 (a := 5) rfl; have i6 := lv_neT g6 (a := 6) rfl; have i7 := lv_neT g7 (a := 7) rfl; omega) (by decide) ?_
      refine q_bipush (pc := 139) (v := (-9)) k154_139 (by decide) ?_
      exact q_ireturn (pc := 141) k154_141 rfl ⟨_, rfl, h⟩
    · replace h := h.2 g4
      refine q_aload_n (pc := 12) k154_12 rfl ?_
      refine q_getR (pc := 13) k154_13 fg154_7 rfl rfl ?_
      refine q_iload_n (pc := 16) k154_16 rfl ?_
      refine q_bipush (pc := 17) (v := 10) k154_17 (by decide) ?_
      refine q_isub (pc := 19) k154_19 ?_
      refine q_ialdv (pc := 20) (v := M 98 (Int32.toNatClampNeg (a1 - 10))) k154_20 rfl h.1 rfl ?_
      replace h := h.2
      exact q_ireturn (pc := 21) k154_21 rfl ⟨_, rfl, h⟩
set_option maxRecDepth 20000 in
theorem vc154_p81 {X : Nat × (Nat → Int32)} {d : Nat} (hd : 0 < d) {M : q_M} {a2 a3 : Int32} {K : Int32 → q_M → Prop} (h : q_Ci X (d - 1) 95 [.ref 97] M (fun r2 M1 => ((r2 ≤ a3) → (K a2 M1)) ∧ ((¬ r2 ≤ a3) → (q_Ci X (d - 1) 98 [.ref 97, .int a3] M1 (fun r5 M4 => ((¬ r5 = 1) → (q_Ex X d 154 81 [some (.ref 97), none, some (.int (a2 + 0)), some (.int (a3 + 1))] [] M4 (q_ri K))) ∧ ((r5 = 1) → (q_Ex X d 154 81 [some (.ref 97), none, some (.int (a2 + 1)), some (.int (a3 + 1))] [] M4 (q_ri K)))))))) : q_Ex X d 154 81 [some (.ref 97), none, some (.int a2), some (.int a3)] [] M (q_ri K) := by
  refine q_iload_n (pc := 81) k154_81 rfl ?_
  refine q_aload_n (pc := 82) k154_82 rfl ?_
  refine q_invV (pc := 83) (As := []) (st := [.int a3]) k154_83 lm154_64 ov95 rfl rfl rfl (q_cat rfl) (Nat.le_of_ble_eq_true rfl) hd h ?_
  rintro v M1 ⟨r2, rfl, h⟩
  show q_Ex X d 154 (83 + 3) [some (.ref 97), none, some (.int a2), some (.int a3)] [.int r2, .int a3] M1 _
  refine q_icmp_ge (pc := 86) 112 k154_86 (by decide) (fun g3 => ?_) (fun g3 => ?_)
  · replace h := h.1 g3
    refine q_iload_n (pc := 112) k154_112 rfl ?_
    exact q_ireturn (pc := 113) k154_113 rfl ⟨_, rfl, h⟩
  · replace h := h.2 g3
    refine q_iload_n (pc := 89) k154_89 rfl ?_
    refine q_aload_n (pc := 90) k154_90 rfl ?_
    refine q_iload_n (pc := 91) k154_91 rfl ?_
    refine q_invV (pc := 92) (As := [.int a3]) (st := [.int a2]) k154_92 lm154_106 ov98 rfl rfl rfl (q_cat rfl) (Nat.le_of_ble_eq_true rfl) hd h ?_
    rintro v M4 ⟨r5, rfl, h⟩
    show q_Ex X d 154 (92 + 3) [some (.ref 97), none, some (.int a2), some (.int a3)] [.int r5, .int a2] M4 _
    refine q_iconst (pc := 95) (v := 1) k154_95 (by decide) ?_
    refine q_icmp_ne (pc := 96) 103 k154_96 (by decide) (fun g6 => ?_) (fun g6 => ?_)
    · replace h := h.1 g6
      refine q_iconst (pc := 103) (v := 0) k154_103 (by decide) ?_
      refine q_iadd (pc := 104) k154_104 ?_
      refine q_istore_n (pc := 105) [some (.ref 97), none, some (.int (a2 + 0)), some (.int a3)] k154_105 rfl (by decide) rfl ?_
      refine q_iinc (pc := 106) (v := a3 + 1) [some (.ref 97), none, some (.int (a2 + 0)), some (.int (a3 + 1))] k154_106 rfl rfl rfl (by decide) rfl ?_
      refine q_goto (pc := 109) 81 k154_109 (by decide) ?_
      exact h
    · replace h := h.2 g6
      refine q_iconst (pc := 99) (v := 1) k154_99 (by decide) ?_
      refine q_goto (pc := 100) 104 k154_100 (by decide) ?_
      refine q_iadd (pc := 104) k154_104 ?_
      refine q_istore_n (pc := 105) [some (.ref 97), none, some (.int (a2 + 1)), some (.int a3)] k154_105 rfl (by decide) rfl ?_
      refine q_iinc (pc := 106) (v := a3 + 1) [some (.ref 97), none, some (.int (a2 + 1)), some (.int (a3 + 1))] k154_106 rfl rfl rfl (by decide) rfl ?_
      refine q_goto (pc := 109) 81 k154_109 (by decide) ?_
      exact h
set_option maxRecDepth 20000 in
theorem vc94_99_114 {X : Nat × (Nat → Int32)} {d : Nat} {M : q_M} {K : q_M → Prop} (h : q_Ex X d 94 2 [some (.ref 99), some (.ref 114), some (.int 0)] [] M (q_rn K)) : q_Cv X d 94 [.ref 99, .ref 114] M K := by
  show q_Ex X d 94 0 [some (.ref 99), some (.ref 114), none] [] M (q_rn K)
  refine q_iconst (pc := 0) (v := 0) k94_0 (by decide) ?_
  refine q_istore_n (pc := 1) [some (.ref 99), some (.ref 114), some (.int 0)] k94_1 rfl (by decide) rfl ?_
  exact h
set_option maxRecDepth 20000 in
theorem vc94_99_114_p2 {X : Nat × (Nat → Int32)} {d : Nat} {M : q_M} {a2 : Int32} {K : q_M → Prop} (h : ((135 ≤ a2) → (K M)) ∧ ((¬ 135 ≤ a2) → (vp_in a2 135 ∧ (vp_in a2 135 ∧ (q_Ex X d 94 2 [some (.ref 99), some (.ref 114), some (.int (a2 + 1))] [] (q_set M 114 (Int32.toNatClampNeg a2) (M 99 (Int32.toNatClampNeg a2))) (q_rn K)))))) : q_Ex X d 94 2 [some (.ref 99), some (.ref 114), some (.int a2)] [] M (q_rn K) := by
  refine q_iload_n (pc := 2) k94_2 rfl ?_
  refine q_sipush (pc := 3) (v := 135) k94_3 (by decide) ?_
  refine q_icmp_ge (pc := 6) 21 k94_6 (by decide) (fun g1 => ?_) (fun g1 => ?_)
  · replace h := h.1 g1
    exact q_return (pc := 21) k94_21 rfl ⟨rfl, h⟩
  · replace h := h.2 g1
    refine q_aload_n (pc := 9) k94_9 rfl ?_
    refine q_iload_n (pc := 10) k94_10 rfl ?_
    refine q_aload_n (pc := 11) k94_11 rfl ?_
    refine q_iload_n (pc := 12) k94_12 rfl ?_
    refine q_ialdv (pc := 13) (v := M 99 (Int32.toNatClampNeg a2)) k94_13 rfl h.1 rfl ?_
    replace h := h.2
    refine q_iastv (pc := 14) (k := (Int32.toNatClampNeg a2)) k94_14 rfl h.1 rfl ?_
    replace h := h.2
    refine q_iinc (pc := 15) (v := a2 + 1) [some (.ref 99), some (.ref 114), some (.int (a2 + 1))] k94_15 rfl rfl rfl (by decide) rfl ?_
    refine q_goto (pc := 18) 2 k94_18 (by decide) ?_
    exact h
set_option maxRecDepth 20000 in
theorem vc94_114_99 {X : Nat × (Nat → Int32)} {d : Nat} {M : q_M} {K : q_M → Prop} (h : q_Ex X d 94 2 [some (.ref 114), some (.ref 99), some (.int 0)] [] M (q_rn K)) : q_Cv X d 94 [.ref 114, .ref 99] M K := by
  show q_Ex X d 94 0 [some (.ref 114), some (.ref 99), none] [] M (q_rn K)
  refine q_iconst (pc := 0) (v := 0) k94_0 (by decide) ?_
  refine q_istore_n (pc := 1) [some (.ref 114), some (.ref 99), some (.int 0)] k94_1 rfl (by decide) rfl ?_
  exact h
set_option maxRecDepth 20000 in
theorem vc94_114_99_p2 {X : Nat × (Nat → Int32)} {d : Nat} {M : q_M} {a2 : Int32} {K : q_M → Prop} (h : ((135 ≤ a2) → (K M)) ∧ ((¬ 135 ≤ a2) → (vp_in a2 135 ∧ (vp_in a2 135 ∧ (q_Ex X d 94 2 [some (.ref 114), some (.ref 99), some (.int (a2 + 1))] [] (q_set M 99 (Int32.toNatClampNeg a2) (M 114 (Int32.toNatClampNeg a2))) (q_rn K)))))) : q_Ex X d 94 2 [some (.ref 114), some (.ref 99), some (.int a2)] [] M (q_rn K) := by
  refine q_iload_n (pc := 2) k94_2 rfl ?_
  refine q_sipush (pc := 3) (v := 135) k94_3 (by decide) ?_
  refine q_icmp_ge (pc := 6) 21 k94_6 (by decide) (fun g1 => ?_) (fun g1 => ?_)
  · replace h := h.1 g1
    exact q_return (pc := 21) k94_21 rfl ⟨rfl, h⟩
  · replace h := h.2 g1
    refine q_aload_n (pc := 9) k94_9 rfl ?_
    refine q_iload_n (pc := 10) k94_10 rfl ?_
    refine q_aload_n (pc := 11) k94_11 rfl ?_
    refine q_iload_n (pc := 12) k94_12 rfl ?_
    refine q_ialdv (pc := 13) (v := M 114 (Int32.toNatClampNeg a2)) k94_13 rfl h.1 rfl ?_
    replace h := h.2
    refine q_iastv (pc := 14) (k := (Int32.toNatClampNeg a2)) k94_14 rfl h.1 rfl ?_
    replace h := h.2
    refine q_iinc (pc := 15) (v := a2 + 1) [some (.ref 114), some (.ref 99), some (.int (a2 + 1))] k94_15 rfl rfl rfl (by decide) rfl ?_
    refine q_goto (pc := 18) 2 k94_18 (by decide) ?_
    exact h
set_option maxRecDepth 20000 in
theorem vc94_99_100 {X : Nat × (Nat → Int32)} {d : Nat} {M : q_M} {K : q_M → Prop} (h : q_Ex X d 94 2 [some (.ref 99), some (.ref 100), some (.int 0)] [] M (q_rn K)) : q_Cv X d 94 [.ref 99, .ref 100] M K := by
  show q_Ex X d 94 0 [some (.ref 99), some (.ref 100), none] [] M (q_rn K)
  refine q_iconst (pc := 0) (v := 0) k94_0 (by decide) ?_
  refine q_istore_n (pc := 1) [some (.ref 99), some (.ref 100), some (.int 0)] k94_1 rfl (by decide) rfl ?_
  exact h
set_option maxRecDepth 20000 in
theorem vc94_99_100_p2 {X : Nat × (Nat → Int32)} {d : Nat} {M : q_M} {a2 : Int32} {K : q_M → Prop} (h : ((135 ≤ a2) → (K M)) ∧ ((¬ 135 ≤ a2) → (vp_in a2 135 ∧ (vp_in a2 135 ∧ (q_Ex X d 94 2 [some (.ref 99), some (.ref 100), some (.int (a2 + 1))] [] (q_set M 100 (Int32.toNatClampNeg a2) (M 99 (Int32.toNatClampNeg a2))) (q_rn K)))))) : q_Ex X d 94 2 [some (.ref 99), some (.ref 100), some (.int a2)] [] M (q_rn K) := by
  refine q_iload_n (pc := 2) k94_2 rfl ?_
  refine q_sipush (pc := 3) (v := 135) k94_3 (by decide) ?_
  refine q_icmp_ge (pc := 6) 21 k94_6 (by decide) (fun g1 => ?_) (fun g1 => ?_)
  · replace h := h.1 g1
    exact q_return (pc := 21) k94_21 rfl ⟨rfl, h⟩
  · replace h := h.2 g1
    refine q_aload_n (pc := 9) k94_9 rfl ?_
    refine q_iload_n (pc := 10) k94_10 rfl ?_
    refine q_aload_n (pc := 11) k94_11 rfl ?_
    refine q_iload_n (pc := 12) k94_12 rfl ?_
    refine q_ialdv (pc := 13) (v := M 99 (Int32.toNatClampNeg a2)) k94_13 rfl h.1 rfl ?_
    replace h := h.2
    refine q_iastv (pc := 14) (k := (Int32.toNatClampNeg a2)) k94_14 rfl h.1 rfl ?_
    replace h := h.2
    refine q_iinc (pc := 15) (v := a2 + 1) [some (.ref 99), some (.ref 100), some (.int (a2 + 1))] k94_15 rfl rfl rfl (by decide) rfl ?_
    refine q_goto (pc := 18) 2 k94_18 (by decide) ?_
    exact h
set_option maxRecDepth 20000 in
theorem vc94_100_99 {X : Nat × (Nat → Int32)} {d : Nat} {M : q_M} {K : q_M → Prop} (h : q_Ex X d 94 2 [some (.ref 100), some (.ref 99), some (.int 0)] [] M (q_rn K)) : q_Cv X d 94 [.ref 100, .ref 99] M K := by
  show q_Ex X d 94 0 [some (.ref 100), some (.ref 99), none] [] M (q_rn K)
  refine q_iconst (pc := 0) (v := 0) k94_0 (by decide) ?_
  refine q_istore_n (pc := 1) [some (.ref 100), some (.ref 99), some (.int 0)] k94_1 rfl (by decide) rfl ?_
  exact h
set_option maxRecDepth 20000 in
theorem vc94_100_99_p2 {X : Nat × (Nat → Int32)} {d : Nat} {M : q_M} {a2 : Int32} {K : q_M → Prop} (h : ((135 ≤ a2) → (K M)) ∧ ((¬ 135 ≤ a2) → (vp_in a2 135 ∧ (vp_in a2 135 ∧ (q_Ex X d 94 2 [some (.ref 100), some (.ref 99), some (.int (a2 + 1))] [] (q_set M 99 (Int32.toNatClampNeg a2) (M 100 (Int32.toNatClampNeg a2))) (q_rn K)))))) : q_Ex X d 94 2 [some (.ref 100), some (.ref 99), some (.int a2)] [] M (q_rn K) := by
  refine q_iload_n (pc := 2) k94_2 rfl ?_
  refine q_sipush (pc := 3) (v := 135) k94_3 (by decide) ?_
  refine q_icmp_ge (pc := 6) 21 k94_6 (by decide) (fun g1 => ?_) (fun g1 => ?_)
  · replace h := h.1 g1
    exact q_return (pc := 21) k94_21 rfl ⟨rfl, h⟩
  · replace h := h.2 g1
    refine q_aload_n (pc := 9) k94_9 rfl ?_
    refine q_iload_n (pc := 10) k94_10 rfl ?_
    refine q_aload_n (pc := 11) k94_11 rfl ?_
    refine q_iload_n (pc := 12) k94_12 rfl ?_
    refine q_ialdv (pc := 13) (v := M 100 (Int32.toNatClampNeg a2)) k94_13 rfl h.1 rfl ?_
    replace h := h.2
    refine q_iastv (pc := 14) (k := (Int32.toNatClampNeg a2)) k94_14 rfl h.1 rfl ?_
    replace h := h.2
    refine q_iinc (pc := 15) (v := a2 + 1) [some (.ref 100), some (.ref 99), some (.int (a2 + 1))] k94_15 rfl rfl rfl (by decide) rfl ?_
    refine q_goto (pc := 18) 2 k94_18 (by decide) ?_
    exact h
set_option maxRecDepth 20000 in
theorem vc155 {X : Nat × (Nat → Int32)} {d : Nat} {M : q_M} {a0 : Int32} {K : Int32 → q_M → Prop} (h : K ((((((((a0 - (((Int32.toUInt32 a0 >>> (Int32.toUInt32 1 &&& Int32.toUInt32 31)).toInt32) &&& 1431655765)) &&& 858993459) + (((Int32.toUInt32 (a0 - (((Int32.toUInt32 a0 >>> (Int32.toUInt32 1 &&& Int32.toUInt32 31)).toInt32) &&& 1431655765)) >>> (Int32.toUInt32 2 &&& Int32.toUInt32 31)).toInt32) &&& 858993459)) + ((Int32.toUInt32 (((a0 - (((Int32.toUInt32 a0 >>> (Int32.toUInt32 1 &&& Int32.toUInt32 31)).toInt32) &&& 1431655765)) &&& 858993459) + (((Int32.toUInt32 (a0 - (((Int32.toUInt32 a0 >>> (Int32.toUInt32 1 &&& Int32.toUInt32 31)).toInt32) &&& 1431655765)) >>> (Int32.toUInt32 2 &&& Int32.toUInt32 31)).toInt32) &&& 858993459)) >>> (Int32.toUInt32 4 &&& Int32.toUInt32 31)).toInt32)) &&& 252645135) + ((Int32.toUInt32 (((((a0 - (((Int32.toUInt32 a0 >>> (Int32.toUInt32 1 &&& Int32.toUInt32 31)).toInt32) &&& 1431655765)) &&& 858993459) + (((Int32.toUInt32 (a0 - (((Int32.toUInt32 a0 >>> (Int32.toUInt32 1 &&& Int32.toUInt32 31)).toInt32) &&& 1431655765)) >>> (Int32.toUInt32 2 &&& Int32.toUInt32 31)).toInt32) &&& 858993459)) + ((Int32.toUInt32 (((a0 - (((Int32.toUInt32 a0 >>> (Int32.toUInt32 1 &&& Int32.toUInt32 31)).toInt32) &&& 1431655765)) &&& 858993459) + (((Int32.toUInt32 (a0 - (((Int32.toUInt32 a0 >>> (Int32.toUInt32 1 &&& Int32.toUInt32 31)).toInt32) &&& 1431655765)) >>> (Int32.toUInt32 2 &&& Int32.toUInt32 31)).toInt32) &&& 858993459)) >>> (Int32.toUInt32 4 &&& Int32.toUInt32 31)).toInt32)) &&& 252645135) >>> (Int32.toUInt32 8 &&& Int32.toUInt32 31)).toInt32)) + ((Int32.toUInt32 ((((((a0 - (((Int32.toUInt32 a0 >>> (Int32.toUInt32 1 &&& Int32.toUInt32 31)).toInt32) &&& 1431655765)) &&& 858993459) + (((Int32.toUInt32 (a0 - (((Int32.toUInt32 a0 >>> (Int32.toUInt32 1 &&& Int32.toUInt32 31)).toInt32) &&& 1431655765)) >>> (Int32.toUInt32 2 &&& Int32.toUInt32 31)).toInt32) &&& 858993459)) + ((Int32.toUInt32 (((a0 - (((Int32.toUInt32 a0 >>> (Int32.toUInt32 1 &&& Int32.toUInt32 31)).toInt32) &&& 1431655765)) &&& 858993459) + (((Int32.toUInt32 (a0 - (((Int32.toUInt32 a0 >>> (Int32.toUInt32 1 &&& Int32.toUInt32 31)).toInt32) &&& 1431655765)) >>> (Int32.toUInt32 2 &&& Int32.toUInt32 31)).toInt32) &&& 858993459)) >>> (Int32.toUInt32 4 &&& Int32.toUInt32 31)).toInt32)) &&& 252645135) + ((Int32.toUInt32 (((((a0 - (((Int32.toUInt32 a0 >>> (Int32.toUInt32 1 &&& Int32.toUInt32 31)).toInt32) &&& 1431655765)) &&& 858993459) + (((Int32.toUInt32 (a0 - (((Int32.toUInt32 a0 >>> (Int32.toUInt32 1 &&& Int32.toUInt32 31)).toInt32) &&& 1431655765)) >>> (Int32.toUInt32 2 &&& Int32.toUInt32 31)).toInt32) &&& 858993459)) + ((Int32.toUInt32 (((a0 - (((Int32.toUInt32 a0 >>> (Int32.toUInt32 1 &&& Int32.toUInt32 31)).toInt32) &&& 1431655765)) &&& 858993459) + (((Int32.toUInt32 (a0 - (((Int32.toUInt32 a0 >>> (Int32.toUInt32 1 &&& Int32.toUInt32 31)).toInt32) &&& 1431655765)) >>> (Int32.toUInt32 2 &&& Int32.toUInt32 31)).toInt32) &&& 858993459)) >>> (Int32.toUInt32 4 &&& Int32.toUInt32 31)).toInt32)) &&& 252645135) >>> (Int32.toUInt32 8 &&& Int32.toUInt32 31)).toInt32)) >>> (Int32.toUInt32 16 &&& Int32.toUInt32 31)).toInt32)) &&& 63) M) : q_Ci X d 155 [.int a0] M K := by
  show q_Ex X d 155 0 [some (.int a0)] [] M (q_ri K)
  refine q_iload_n (pc := 0) k155_0 rfl ?_
  refine q_iload_n (pc := 1) k155_1 rfl ?_
  refine q_iconst (pc := 2) (v := 1) k155_2 (by decide) ?_
  refine q_iushr (pc := 3) k155_3 ?_
  refine q_ldcw (pc := 4) (v := 1431655765) k155_4 ld155_265 ?_
  refine q_iand (pc := 7) k155_7 ?_
  refine q_isub (pc := 8) k155_8 ?_
  refine q_istore_n (pc := 9) [some (.int (a0 - (((Int32.toUInt32 a0 >>> (Int32.toUInt32 1 &&& Int32.toUInt32 31)).toInt32) &&& 1431655765)))] k155_9 rfl (by decide) rfl ?_
  refine q_iload_n (pc := 10) k155_10 rfl ?_
  refine q_ldcw (pc := 11) (v := 858993459) k155_11 ld155_266 ?_
  refine q_iand (pc := 14) k155_14 ?_
  refine q_iload_n (pc := 15) k155_15 rfl ?_
  refine q_iconst (pc := 16) (v := 2) k155_16 (by decide) ?_
  refine q_iushr (pc := 17) k155_17 ?_
  refine q_ldcw (pc := 18) (v := 858993459) k155_18 ld155_266 ?_
  refine q_iand (pc := 21) k155_21 ?_
  refine q_iadd (pc := 22) k155_22 ?_
  refine q_istore_n (pc := 23) [some (.int (((a0 - (((Int32.toUInt32 a0 >>> (Int32.toUInt32 1 &&& Int32.toUInt32 31)).toInt32) &&& 1431655765)) &&& 858993459) + (((Int32.toUInt32 (a0 - (((Int32.toUInt32 a0 >>> (Int32.toUInt32 1 &&& Int32.toUInt32 31)).toInt32) &&& 1431655765)) >>> (Int32.toUInt32 2 &&& Int32.toUInt32 31)).toInt32) &&& 858993459)))] k155_23 rfl (by decide) rfl ?_
  refine q_iload_n (pc := 24) k155_24 rfl ?_
  refine q_iload_n (pc := 25) k155_25 rfl ?_
  refine q_iconst (pc := 26) (v := 4) k155_26 (by decide) ?_
  refine q_iushr (pc := 27) k155_27 ?_
  refine q_iadd (pc := 28) k155_28 ?_
  refine q_ldcw (pc := 29) (v := 252645135) k155_29 ld155_267 ?_
  refine q_iand (pc := 32) k155_32 ?_
  refine q_istore_n (pc := 33) [some (.int (((((a0 - (((Int32.toUInt32 a0 >>> (Int32.toUInt32 1 &&& Int32.toUInt32 31)).toInt32) &&& 1431655765)) &&& 858993459) + (((Int32.toUInt32 (a0 - (((Int32.toUInt32 a0 >>> (Int32.toUInt32 1 &&& Int32.toUInt32 31)).toInt32) &&& 1431655765)) >>> (Int32.toUInt32 2 &&& Int32.toUInt32 31)).toInt32) &&& 858993459)) + ((Int32.toUInt32 (((a0 - (((Int32.toUInt32 a0 >>> (Int32.toUInt32 1 &&& Int32.toUInt32 31)).toInt32) &&& 1431655765)) &&& 858993459) + (((Int32.toUInt32 (a0 - (((Int32.toUInt32 a0 >>> (Int32.toUInt32 1 &&& Int32.toUInt32 31)).toInt32) &&& 1431655765)) >>> (Int32.toUInt32 2 &&& Int32.toUInt32 31)).toInt32) &&& 858993459)) >>> (Int32.toUInt32 4 &&& Int32.toUInt32 31)).toInt32)) &&& 252645135))] k155_33 rfl (by decide) rfl ?_
  refine q_iload_n (pc := 34) k155_34 rfl ?_
  refine q_iload_n (pc := 35) k155_35 rfl ?_
  refine q_bipush (pc := 36) (v := 8) k155_36 (by decide) ?_
  refine q_iushr (pc := 38) k155_38 ?_
  refine q_iadd (pc := 39) k155_39 ?_
  refine q_istore_n (pc := 40) [some (.int ((((((a0 - (((Int32.toUInt32 a0 >>> (Int32.toUInt32 1 &&& Int32.toUInt32 31)).toInt32) &&& 1431655765)) &&& 858993459) + (((Int32.toUInt32 (a0 - (((Int32.toUInt32 a0 >>> (Int32.toUInt32 1 &&& Int32.toUInt32 31)).toInt32) &&& 1431655765)) >>> (Int32.toUInt32 2 &&& Int32.toUInt32 31)).toInt32) &&& 858993459)) + ((Int32.toUInt32 (((a0 - (((Int32.toUInt32 a0 >>> (Int32.toUInt32 1 &&& Int32.toUInt32 31)).toInt32) &&& 1431655765)) &&& 858993459) + (((Int32.toUInt32 (a0 - (((Int32.toUInt32 a0 >>> (Int32.toUInt32 1 &&& Int32.toUInt32 31)).toInt32) &&& 1431655765)) >>> (Int32.toUInt32 2 &&& Int32.toUInt32 31)).toInt32) &&& 858993459)) >>> (Int32.toUInt32 4 &&& Int32.toUInt32 31)).toInt32)) &&& 252645135) + ((Int32.toUInt32 (((((a0 - (((Int32.toUInt32 a0 >>> (Int32.toUInt32 1 &&& Int32.toUInt32 31)).toInt32) &&& 1431655765)) &&& 858993459) + (((Int32.toUInt32 (a0 - (((Int32.toUInt32 a0 >>> (Int32.toUInt32 1 &&& Int32.toUInt32 31)).toInt32) &&& 1431655765)) >>> (Int32.toUInt32 2 &&& Int32.toUInt32 31)).toInt32) &&& 858993459)) + ((Int32.toUInt32 (((a0 - (((Int32.toUInt32 a0 >>> (Int32.toUInt32 1 &&& Int32.toUInt32 31)).toInt32) &&& 1431655765)) &&& 858993459) + (((Int32.toUInt32 (a0 - (((Int32.toUInt32 a0 >>> (Int32.toUInt32 1 &&& Int32.toUInt32 31)).toInt32) &&& 1431655765)) >>> (Int32.toUInt32 2 &&& Int32.toUInt32 31)).toInt32) &&& 858993459)) >>> (Int32.toUInt32 4 &&& Int32.toUInt32 31)).toInt32)) &&& 252645135) >>> (Int32.toUInt32 8 &&& Int32.toUInt32 31)).toInt32)))] k155_40 rfl (by decide) rfl ?_
  refine q_iload_n (pc := 41) k155_41 rfl ?_
  refine q_iload_n (pc := 42) k155_42 rfl ?_
  refine q_bipush (pc := 43) (v := 16) k155_43 (by decide) ?_
  refine q_iushr (pc := 45) k155_45 ?_
  refine q_iadd (pc := 46) k155_46 ?_
  refine q_istore_n (pc := 47) [some (.int (((((((a0 - (((Int32.toUInt32 a0 >>> (Int32.toUInt32 1 &&& Int32.toUInt32 31)).toInt32) &&& 1431655765)) &&& 858993459) + (((Int32.toUInt32 (a0 - (((Int32.toUInt32 a0 >>> (Int32.toUInt32 1 &&& Int32.toUInt32 31)).toInt32) &&& 1431655765)) >>> (Int32.toUInt32 2 &&& Int32.toUInt32 31)).toInt32) &&& 858993459)) + ((Int32.toUInt32 (((a0 - (((Int32.toUInt32 a0 >>> (Int32.toUInt32 1 &&& Int32.toUInt32 31)).toInt32) &&& 1431655765)) &&& 858993459) + (((Int32.toUInt32 (a0 - (((Int32.toUInt32 a0 >>> (Int32.toUInt32 1 &&& Int32.toUInt32 31)).toInt32) &&& 1431655765)) >>> (Int32.toUInt32 2 &&& Int32.toUInt32 31)).toInt32) &&& 858993459)) >>> (Int32.toUInt32 4 &&& Int32.toUInt32 31)).toInt32)) &&& 252645135) + ((Int32.toUInt32 (((((a0 - (((Int32.toUInt32 a0 >>> (Int32.toUInt32 1 &&& Int32.toUInt32 31)).toInt32) &&& 1431655765)) &&& 858993459) + (((Int32.toUInt32 (a0 - (((Int32.toUInt32 a0 >>> (Int32.toUInt32 1 &&& Int32.toUInt32 31)).toInt32) &&& 1431655765)) >>> (Int32.toUInt32 2 &&& Int32.toUInt32 31)).toInt32) &&& 858993459)) + ((Int32.toUInt32 (((a0 - (((Int32.toUInt32 a0 >>> (Int32.toUInt32 1 &&& Int32.toUInt32 31)).toInt32) &&& 1431655765)) &&& 858993459) + (((Int32.toUInt32 (a0 - (((Int32.toUInt32 a0 >>> (Int32.toUInt32 1 &&& Int32.toUInt32 31)).toInt32) &&& 1431655765)) >>> (Int32.toUInt32 2 &&& Int32.toUInt32 31)).toInt32) &&& 858993459)) >>> (Int32.toUInt32 4 &&& Int32.toUInt32 31)).toInt32)) &&& 252645135) >>> (Int32.toUInt32 8 &&& Int32.toUInt32 31)).toInt32)) + ((Int32.toUInt32 ((((((a0 - (((Int32.toUInt32 a0 >>> (Int32.toUInt32 1 &&& Int32.toUInt32 31)).toInt32) &&& 1431655765)) &&& 858993459) + (((Int32.toUInt32 (a0 - (((Int32.toUInt32 a0 >>> (Int32.toUInt32 1 &&& Int32.toUInt32 31)).toInt32) &&& 1431655765)) >>> (Int32.toUInt32 2 &&& Int32.toUInt32 31)).toInt32) &&& 858993459)) + ((Int32.toUInt32 (((a0 - (((Int32.toUInt32 a0 >>> (Int32.toUInt32 1 &&& Int32.toUInt32 31)).toInt32) &&& 1431655765)) &&& 858993459) + (((Int32.toUInt32 (a0 - (((Int32.toUInt32 a0 >>> (Int32.toUInt32 1 &&& Int32.toUInt32 31)).toInt32) &&& 1431655765)) >>> (Int32.toUInt32 2 &&& Int32.toUInt32 31)).toInt32) &&& 858993459)) >>> (Int32.toUInt32 4 &&& Int32.toUInt32 31)).toInt32)) &&& 252645135) + ((Int32.toUInt32 (((((a0 - (((Int32.toUInt32 a0 >>> (Int32.toUInt32 1 &&& Int32.toUInt32 31)).toInt32) &&& 1431655765)) &&& 858993459) + (((Int32.toUInt32 (a0 - (((Int32.toUInt32 a0 >>> (Int32.toUInt32 1 &&& Int32.toUInt32 31)).toInt32) &&& 1431655765)) >>> (Int32.toUInt32 2 &&& Int32.toUInt32 31)).toInt32) &&& 858993459)) + ((Int32.toUInt32 (((a0 - (((Int32.toUInt32 a0 >>> (Int32.toUInt32 1 &&& Int32.toUInt32 31)).toInt32) &&& 1431655765)) &&& 858993459) + (((Int32.toUInt32 (a0 - (((Int32.toUInt32 a0 >>> (Int32.toUInt32 1 &&& Int32.toUInt32 31)).toInt32) &&& 1431655765)) >>> (Int32.toUInt32 2 &&& Int32.toUInt32 31)).toInt32) &&& 858993459)) >>> (Int32.toUInt32 4 &&& Int32.toUInt32 31)).toInt32)) &&& 252645135) >>> (Int32.toUInt32 8 &&& Int32.toUInt32 31)).toInt32)) >>> (Int32.toUInt32 16 &&& Int32.toUInt32 31)).toInt32)))] k155_47 rfl (by decide) rfl ?_
  refine q_iload_n (pc := 48) k155_48 rfl ?_
  refine q_bipush (pc := 49) (v := 63) k155_49 (by decide) ?_
  refine q_iand (pc := 51) k155_51 ?_
  exact q_ireturn (pc := 52) k155_52 rfl ⟨_, rfl, h⟩
set_option maxRecDepth 20000 in
theorem vc158 {X : Nat × (Nat → Int32)} {d : Nat} {M : q_M} {a1 : Int32} {ra na : Nat} (hr : q_lay[ra]? = some (.inr (.inl na))) {K : q_M → Prop} (h : q_Ex X d 158 5 [some (.ref ra), some (.int a1), some (.int 0), some (.int (Int32.ofNat na))] [] M (q_rn K)) : q_Cv X d 158 [.ref ra, .int a1] M K := by
  show q_Ex X d 158 0 [some (.ref ra), some (.int a1), none, none] [] M (q_rn K)
  refine q_iconst (pc := 0) (v := 0) k158_0 (by decide) ?_
  refine q_istore_n (pc := 1) [some (.ref ra), some (.int a1), some (.int 0), none] k158_1 rfl (by decide) rfl ?_
  refine q_aload_n (pc := 2) k158_2 rfl ?_
  refine q_alen (pc := 3) (v := Int32.ofNat na) k158_3 hr rfl ?_
  refine q_istore_n (pc := 4) [some (.ref ra), some (.int a1), some (.int 0), some (.int (Int32.ofNat na))] k158_4 rfl (by decide) rfl ?_
  exact h
set_option maxRecDepth 20000 in
theorem vc158_p5 {X : Nat × (Nat → Int32)} {d : Nat} {M : q_M} {a1 a2 a3 : Int32} {ra na : Nat} (hr : q_lay[ra]? = some (.inr (.inl na))) {K : q_M → Prop} (h : ((a3 ≤ a2) → (K M)) ∧ ((¬ a3 ≤ a2) → (vp_in a2 na ∧ (q_Ex X d 158 5 [some (.ref ra), some (.int a1), some (.int (a2 + 1)), some (.int a3)] [] (q_set M ra (Int32.toNatClampNeg a2) a1) (q_rn K))))) : q_Ex X d 158 5 [some (.ref ra), some (.int a1), some (.int a2), some (.int a3)] [] M (q_rn K) := by
  refine q_iload_n (pc := 5) k158_5 rfl ?_
  refine q_iload_n (pc := 6) k158_6 rfl ?_
  refine q_icmp_ge (pc := 7) 20 k158_7 (by decide) (fun g1 => ?_) (fun g1 => ?_)
  · replace h := h.1 g1
    exact q_return (pc := 20) k158_20 rfl ⟨rfl, h⟩
  · replace h := h.2 g1
    refine q_aload_n (pc := 10) k158_10 rfl ?_
    refine q_iload_n (pc := 11) k158_11 rfl ?_
    refine q_iload_n (pc := 12) k158_12 rfl ?_
    refine q_iastv (pc := 13) (k := (Int32.toNatClampNeg a2)) k158_13 hr h.1 rfl ?_
    replace h := h.2
    refine q_iinc (pc := 14) (v := a2 + 1) [some (.ref ra), some (.int a1), some (.int (a2 + 1)), some (.int a3)] k158_14 rfl rfl rfl (by decide) rfl ?_
    refine q_goto (pc := 17) 5 k158_17 (by decide) ?_
    exact h
set_option maxRecDepth 20000 in
theorem vcL_p18 {X : Nat × (Nat → Int32)} {d : Nat} (hd : 0 < d) {M : q_M} {a3 : Int32} {K : Int32 → q_M → Prop} (h : ((((Int32.ofNat X.1) - 4) < a3) → (K 1 M)) ∧ ((¬ ((Int32.ofNat X.1) - 4) < a3) → (vp_in a3 X.1 ∧ ((((X.2 (Int32.toNatClampNeg a3)) &&& 31) = 0 → (vp_in (a3 + 1) X.1 ∧ (q_Ci X (d - 1) 44 [.ref 0, .int (X.2 (Int32.toNatClampNeg (a3 + 1)))] M (fun r3 M2 => vp_in (a3 + 1) X.1 ∧ (q_Ci X (d - 1) 101 [.ref 97, .int (X.2 (Int32.toNatClampNeg (a3 + 1)))] M2 (fun r5 M4 => ((r3 = r5) → (q_Ex X d 159 18 [some (.ref 1003), some (.ref 0), some (.ref 97), some (.int (a3 + 4))] [] M4 (q_ri K))) ∧ ((¬ r3 = r5) → (K 0 M4)))))))) ∧ (((X.2 (Int32.toNatClampNeg a3)) &&& 31) = 1 → (q_Ci X (d - 1) 45 [.ref 0] M (fun r8 M7 => q_Ci X (d - 1) 104 [.ref 97] M7 (fun r10 M9 => ((r8 = r10) → (q_Ex X d 159 18 [some (.ref 1003), some (.ref 0), some (.ref 97), some (.int (a3 + 4))] [] M9 (q_ri K))) ∧ ((¬ r8 = r10) → (K 0 M9)))))) ∧ (((X.2 (Int32.toNatClampNeg a3)) &&& 31) = 2 → (vp_in (a3 + 1) X.1 ∧ (vp_in (a3 + 2) X.1 ∧ (q_Ci X (d - 1) 46 [.ref 0, .int (X.2 (Int32.toNatClampNeg (a3 + 1))), .int (X.2 (Int32.toNatClampNeg (a3 + 2)))] M (fun r13 M12 => vp_in (a3 + 1) X.1 ∧ (vp_in (a3 + 2) X.1 ∧ (q_Ci X (d - 1) 105 [.ref 97, .int (X.2 (Int32.toNatClampNeg (a3 + 1))), .int (X.2 (Int32.toNatClampNeg (a3 + 2)))] M12 (fun r15 M14 => ((r13 = r15) → (q_Ex X d 159 18 [some (.ref 1003), some (.ref 0), some (.ref 97), some (.int (a3 + 4))] [] M14 (q_ri K))) ∧ ((¬ r13 = r15) → (K 0 M14)))))))))) ∧ (((X.2 (Int32.toNatClampNeg a3)) &&& 31) = 3 → (vp_in (a3 + 1) X.1 ∧ (q_Ci X (d - 1) 47 [.ref 0, .int (X.2 (Int32.toNatClampNeg (a3 + 1)))] M (fun r18 M17 => vp_in (a3 + 1) X.1 ∧ (q_Ci X (d - 1) 106 [.ref 97, .int (X.2 (Int32.toNatClampNeg (a3 + 1)))] M17 (fun r20 M19 => ((r18 = r20) → (q_Ex X d 159 18 [some (.ref 1003), some (.ref 0), some (.ref 97), some (.int (a3 + 4))] [] M19 (q_ri K))) ∧ ((¬ r18 = r20) → (K 0 M19)))))))) ∧ (((X.2 (Int32.toNatClampNeg a3)) &&& 31) = 4 → (vp_in (a3 + 1) X.1 ∧ (q_Ci X (d - 1) 48 [.ref 0, .int (X.2 (Int32.toNatClampNeg (a3 + 1)))] M (fun r23 M22 => vp_in (a3 + 1) X.1 ∧ (q_Ci X (d - 1) 109 [.ref 97, .int (X.2 (Int32.toNatClampNeg (a3 + 1)))] M22 (fun r25 M24 => ((r23 = r25) → (q_Ex X d 159 18 [some (.ref 1003), some (.ref 0), some (.ref 97), some (.int (a3 + 4))] [] M24 (q_ri K))) ∧ ((¬ r23 = r25) → (K 0 M24)))))))) ∧ (((X.2 (Int32.toNatClampNeg a3)) &&& 31) = 5 → (vp_in (a3 + 1) X.1 ∧ (vp_in (a3 + 2) X.1 ∧ (q_Ci X (d - 1) 49 [.ref 0, .int (X.2 (Int32.toNatClampNeg (a3 + 1))), .int (X.2 (Int32.toNatClampNeg (a3 + 2)))] M (fun r28 M27 => vp_in (a3 + 1) X.1 ∧ (vp_in (a3 + 2) X.1 ∧ (q_Ci X (d - 1) 116 [.ref 97, .int (X.2 (Int32.toNatClampNeg (a3 + 1))), .int (X.2 (Int32.toNatClampNeg (a3 + 2)))] M27 (fun r30 M29 => ((r28 = r30) → (q_Ex X d 159 18 [some (.ref 1003), some (.ref 0), some (.ref 97), some (.int (a3 + 4))] [] M29 (q_ri K))) ∧ ((¬ r28 = r30) → (K 0 M29)))))))))) ∧ (((X.2 (Int32.toNatClampNeg a3)) &&& 31) = 6 → (q_Ci X (d - 1) 50 [.ref 0] M (fun r33 M32 => q_Ci X (d - 1) 126 [.ref 97] M32 (fun r35 M34 => ((r33 = r35) → (q_Ex X d 159 18 [some (.ref 1003), some (.ref 0), some (.ref 97), some (.int (a3 + 4))] [] M34 (q_ri K))) ∧ ((¬ r33 = r35) → (K 0 M34)))))) ∧ (((X.2 (Int32.toNatClampNeg a3)) &&& 31) = 7 → (q_Ci X (d - 1) 51 [.ref 0] M (fun r38 M37 => q_Ci X (d - 1) 128 [.ref 97] M37 (fun r40 M39 => ((r38 = r40) → (q_Ex X d 159 18 [some (.ref 1003), some (.ref 0), some (.ref 97), some (.int (a3 + 4))] [] M39 (q_ri K))) ∧ ((¬ r38 = r40) → (K 0 M39)))))) ∧ (((X.2 (Int32.toNatClampNeg a3)) &&& 31) = 8 → (q_Ci X (d - 1) 52 [.ref 0] M (fun r43 M42 => q_Ci X (d - 1) 129 [.ref 97] M42 (fun r45 M44 => ((r43 = r45) → (q_Ex X d 159 18 [some (.ref 1003), some (.ref 0), some (.ref 97), some (.int (a3 + 4))] [] M44 (q_ri K))) ∧ ((¬ r43 = r45) → (K 0 M44)))))) ∧ (((X.2 (Int32.toNatClampNeg a3)) &&& 31) = 9 → (vp_in (a3 + 1) X.1 ∧ (q_Ci X (d - 1) 53 [.ref 0, .int (X.2 (Int32.toNatClampNeg (a3 + 1)))] M (fun r48 M47 => vp_in (a3 + 1) X.1 ∧ (q_Ci X (d - 1) 130 [.ref 97, .int (X.2 (Int32.toNatClampNeg (a3 + 1)))] M47 (fun r50 M49 => ((r48 = r50) → (q_Ex X d 159 18 [some (.ref 1003), some (.ref 0), some (.ref 97), some (.int (a3 + 4))] [] M49 (q_ri K))) ∧ ((¬ r48 = r50) → (K 0 M49)))))))) ∧ (((X.2 (Int32.toNatClampNeg a3)) &&& 31) = 10 → (q_Ci X (d - 1) 54 [.ref 0] M (fun r53 M52 => q_Ci X (d - 1) 131 [.ref 97] M52 (fun r55 M54 => ((r53 = r55) → (q_Ex X d 159 18 [some (.ref 1003), some (.ref 0), some (.ref 97), some (.int (a3 + 4))] [] M54 (q_ri K))) ∧ ((¬ r53 = r55) → (K 0 M54)))))) ∧ (((X.2 (Int32.toNatClampNeg a3)) &&& 31) = 11 → (vp_in (a3 + 1) X.1 ∧ (vp_in (a3 + 2) X.1 ∧ (q_Ci X (d - 1) 55 [.ref 0, .int (X.2 (Int32.toNatClampNeg (a3 + 1))), .int (X.2 (Int32.toNatClampNeg (a3 + 2)))] M (fun r58 M57 => vp_in (a3 + 1) X.1 ∧ (vp_in (a3 + 2) X.1 ∧ (q_Ci X (d - 1) 133 [.ref 97, .int (X.2 (Int32.toNatClampNeg (a3 + 1))), .int (X.2 (Int32.toNatClampNeg (a3 + 2)))] M57 (fun r60 M59 => ((r58 = r60) → (q_Ex X d 159 18 [some (.ref 1003), some (.ref 0), some (.ref 97), some (.int (a3 + 4))] [] M59 (q_ri K))) ∧ ((¬ r58 = r60) → (K 0 M59)))))))))) ∧ (((X.2 (Int32.toNatClampNeg a3)) &&& 31) = 12 → (vp_in (a3 + 1) X.1 ∧ (vp_in (a3 + 2) X.1 ∧ (vp_in (a3 + 3) X.1 ∧ (q_Ci X (d - 1) 56 [.ref 0, .int (X.2 (Int32.toNatClampNeg (a3 + 1))), .int (X.2 (Int32.toNatClampNeg (a3 + 2))), .int (X.2 (Int32.toNatClampNeg (a3 + 3)))] M (fun r63 M62 => vp_in (a3 + 1) X.1 ∧ (vp_in (a3 + 2) X.1 ∧ (vp_in (a3 + 3) X.1 ∧ (q_Ci X (d - 1) 135 [.ref 97, .int (X.2 (Int32.toNatClampNeg (a3 + 1))), .int (X.2 (Int32.toNatClampNeg (a3 + 2))), .int (X.2 (Int32.toNatClampNeg (a3 + 3)))] M62 (fun r65 M64 => ((r63 = r65) → (q_Ex X d 159 18 [some (.ref 1003), some (.ref 0), some (.ref 97), some (.int (a3 + 4))] [] M64 (q_ri K))) ∧ ((¬ r63 = r65) → (K 0 M64)))))))))))) ∧ (((X.2 (Int32.toNatClampNeg a3)) &&& 31) = 13 → (vp_in (a3 + 1) X.1 ∧ (vp_in (a3 + 2) X.1 ∧ (vp_in (a3 + 3) X.1 ∧ (q_Ci X (d - 1) 57 [.ref 0, .int (X.2 (Int32.toNatClampNeg (a3 + 1))), .int (X.2 (Int32.toNatClampNeg (a3 + 2))), .int (X.2 (Int32.toNatClampNeg (a3 + 3)))] M (fun r68 M67 => vp_in (a3 + 1) X.1 ∧ (vp_in (a3 + 2) X.1 ∧ (vp_in (a3 + 3) X.1 ∧ (q_Ci X (d - 1) 136 [.ref 97, .int (X.2 (Int32.toNatClampNeg (a3 + 1))), .int (X.2 (Int32.toNatClampNeg (a3 + 2))), .int (X.2 (Int32.toNatClampNeg (a3 + 3)))] M67 (fun r70 M69 => ((r68 = r70) → (q_Ex X d 159 18 [some (.ref 1003), some (.ref 0), some (.ref 97), some (.int (a3 + 4))] [] M69 (q_ri K))) ∧ ((¬ r68 = r70) → (K 0 M69)))))))))))) ∧ (((X.2 (Int32.toNatClampNeg a3)) &&& 31) = 14 → (q_Ci X (d - 1) 58 [.ref 0] M (fun r73 M72 => q_Ci X (d - 1) 139 [.ref 97] M72 (fun r75 M74 => ((r73 = r75) → (q_Ex X d 159 18 [some (.ref 1003), some (.ref 0), some (.ref 97), some (.int (a3 + 4))] [] M74 (q_ri K))) ∧ ((¬ r73 = r75) → (K 0 M74)))))) ∧ (((X.2 (Int32.toNatClampNeg a3)) &&& 31) = 15 → (q_Ci X (d - 1) 59 [.ref 0] M (fun r78 M77 => q_Ci X (d - 1) 140 [.ref 97] M77 (fun r80 M79 => ((r78 = r80) → (q_Ex X d 159 18 [some (.ref 1003), some (.ref 0), some (.ref 97), some (.int (a3 + 4))] [] M79 (q_ri K))) ∧ ((¬ r78 = r80) → (K 0 M79)))))) ∧ (((X.2 (Int32.toNatClampNeg a3)) &&& 31) = 16 → (vp_in (a3 + 1) X.1 ∧ (q_Ci X (d - 1) 60 [.ref 0, .int (X.2 (Int32.toNatClampNeg (a3 + 1)))] M (fun r83 M82 => vp_in (a3 + 1) X.1 ∧ (q_Ci X (d - 1) 141 [.ref 97, .int (X.2 (Int32.toNatClampNeg (a3 + 1)))] M82 (fun r85 M84 => ((r83 = r85) → (q_Ex X d 159 18 [some (.ref 1003), some (.ref 0), some (.ref 97), some (.int (a3 + 4))] [] M84 (q_ri K))) ∧ ((¬ r83 = r85) → (K 0 M84)))))))) ∧ (((X.2 (Int32.toNatClampNeg a3)) &&& 31) = 17 → (q_Ci X (d - 1) 61 [.ref 0] M (fun r88 M87 => q_Ci X (d - 1) 142 [.ref 97] M87 (fun r90 M89 => ((r88 = r90) → (q_Ex X d 159 18 [some (.ref 1003), some (.ref 0), some (.ref 97), some (.int (a3 + 4))] [] M89 (q_ri K))) ∧ ((¬ r88 = r90) → (K 0 M89)))))) ∧ (((X.2 (Int32.toNatClampNeg a3)) &&& 31) = 18 → (vp_in (a3 + 1) X.1 ∧ (q_Ci X (d - 1) 62 [.ref 0, .int (X.2 (Int32.toNatClampNeg (a3 + 1)))] M (fun r93 M92 => vp_in (a3 + 1) X.1 ∧ (q_Ci X (d - 1) 143 [.ref 97, .int (X.2 (Int32.toNatClampNeg (a3 + 1)))] M92 (fun r95 M94 => ((r93 = r95) → (q_Ex X d 159 18 [some (.ref 1003), some (.ref 0), some (.ref 97), some (.int (a3 + 4))] [] M94 (q_ri K))) ∧ ((¬ r93 = r95) → (K 0 M94)))))))) ∧ (((X.2 (Int32.toNatClampNeg a3)) &&& 31) = 19 → (vp_in (a3 + 1) X.1 ∧ (q_Ci X (d - 1) 63 [.ref 0, .int (X.2 (Int32.toNatClampNeg (a3 + 1)))] M (fun r98 M97 => vp_in (a3 + 1) X.1 ∧ (q_Ci X (d - 1) 144 [.ref 97, .int (X.2 (Int32.toNatClampNeg (a3 + 1)))] M97 (fun r100 M99 => ((r98 = r100) → (q_Ex X d 159 18 [some (.ref 1003), some (.ref 0), some (.ref 97), some (.int (a3 + 4))] [] M99 (q_ri K))) ∧ ((¬ r98 = r100) → (K 0 M99)))))))) ∧ (((X.2 (Int32.toNatClampNeg a3)) &&& 31) = 20 → (q_Ci X (d - 1) 64 [.ref 0] M (fun r103 M102 => q_Ci X (d - 1) 145 [.ref 97] M102 (fun r105 M104 => ((r103 = r105) → (q_Ex X d 159 18 [some (.ref 1003), some (.ref 0), some (.ref 97), some (.int (a3 + 4))] [] M104 (q_ri K))) ∧ ((¬ r103 = r105) → (K 0 M104)))))) ∧ (((X.2 (Int32.toNatClampNeg a3)) &&& 31) = 21 → (vp_in (a3 + 1) X.1 ∧ (vp_in (a3 + 2) X.1 ∧ (vp_in (a3 + 3) X.1 ∧ (q_Ci X (d - 1) 65 [.ref 0, .int (X.2 (Int32.toNatClampNeg (a3 + 1))), .int (X.2 (Int32.toNatClampNeg (a3 + 2))), .int (X.2 (Int32.toNatClampNeg (a3 + 3)))] M (fun r108 M107 => vp_in (a3 + 1) X.1 ∧ (vp_in (a3 + 2) X.1 ∧ (vp_in (a3 + 3) X.1 ∧ (q_Ci X (d - 1) 147 [.ref 97, .int (X.2 (Int32.toNatClampNeg (a3 + 1))), .int (X.2 (Int32.toNatClampNeg (a3 + 2))), .int (X.2 (Int32.toNatClampNeg (a3 + 3)))] M107 (fun r110 M109 => ((r108 = r110) → (q_Ex X d 159 18 [some (.ref 1003), some (.ref 0), some (.ref 97), some (.int (a3 + 4))] [] M109 (q_ri K))) ∧ ((¬ r108 = r110) → (K 0 M109)))))))))))) ∧ (((X.2 (Int32.toNatClampNeg a3)) &&& 31) = 22 → (vp_in (a3 + 1) X.1 ∧ (vp_in (a3 + 2) X.1 ∧ (q_Ci X (d - 1) 66 [.ref 0, .int (X.2 (Int32.toNatClampNeg (a3 + 1))), .int (X.2 (Int32.toNatClampNeg (a3 + 2)))] M (fun r113 M112 => vp_in (a3 + 1) X.1 ∧ (vp_in (a3 + 2) X.1 ∧ (q_Ci X (d - 1) 148 [.ref 97, .int (X.2 (Int32.toNatClampNeg (a3 + 1))), .int (X.2 (Int32.toNatClampNeg (a3 + 2)))] M112 (fun r115 M114 => ((r113 = r115) → (q_Ex X d 159 18 [some (.ref 1003), some (.ref 0), some (.ref 97), some (.int (a3 + 4))] [] M114 (q_ri K))) ∧ ((¬ r113 = r115) → (K 0 M114)))))))))) ∧ (((X.2 (Int32.toNatClampNeg a3)) &&& 31) = 23 → (q_Ci X (d - 1) 67 [.ref 0] M (fun r118 M117 => q_Ci X (d - 1) 150 [.ref 97] M117 (fun r120 M119 => ((r118 = r120) → (q_Ex X d 159 18 [some (.ref 1003), some (.ref 0), some (.ref 97), some (.int (a3 + 4))] [] M119 (q_ri K))) ∧ ((¬ r118 = r120) → (K 0 M119)))))) ∧ (((X.2 (Int32.toNatClampNeg a3)) &&& 31) = 24 → (q_Ci X (d - 1) 68 [.ref 0] M (fun r123 M122 => q_Ci X (d - 1) 151 [.ref 97] M122 (fun r125 M124 => ((r123 = r125) → (q_Ex X d 159 18 [some (.ref 1003), some (.ref 0), some (.ref 97), some (.int (a3 + 4))] [] M124 (q_ri K))) ∧ ((¬ r123 = r125) → (K 0 M124)))))) ∧ (((X.2 (Int32.toNatClampNeg a3)) &&& 31) = 25 → (q_Ci X (d - 1) 69 [.ref 0] M (fun r128 M127 => q_Ci X (d - 1) 152 [.ref 97] M127 (fun r130 M129 => ((r128 = r130) → (q_Ex X d 159 18 [some (.ref 1003), some (.ref 0), some (.ref 97), some (.int (a3 + 4))] [] M129 (q_ri K))) ∧ ((¬ r128 = r130) → (K 0 M129)))))) ∧ (((X.2 (Int32.toNatClampNeg a3)) &&& 31) = 26 → (q_Ci X (d - 1) 70 [.ref 0] M (fun r133 M132 => q_Ci X (d - 1) 153 [.ref 97] M132 (fun r135 M134 => ((r133 = r135) → (q_Ex X d 159 18 [some (.ref 1003), some (.ref 0), some (.ref 97), some (.int (a3 + 4))] [] M134 (q_ri K))) ∧ ((¬ r133 = r135) → (K 0 M134)))))) ∧ (((X.2 (Int32.toNatClampNeg a3)) &&& 31) = 27 → (vp_in (a3 + 1) X.1 ∧ (q_Ci X (d - 1) 71 [.ref 0, .int (X.2 (Int32.toNatClampNeg (a3 + 1)))] M (fun r138 M137 => vp_in (a3 + 1) X.1 ∧ (q_Ci X (d - 1) 154 [.ref 97, .int (X.2 (Int32.toNatClampNeg (a3 + 1)))] M137 (fun r140 M139 => ((r138 = r140) → (q_Ex X d 159 18 [some (.ref 1003), some (.ref 0), some (.ref 97), some (.int (a3 + 4))] [] M139 (q_ri K))) ∧ ((¬ r138 = r140) → (K 0 M139)))))))) ∧ ((¬ ((X.2 (Int32.toNatClampNeg a3)) &&& 31) = 0 ∧ ¬ ((X.2 (Int32.toNatClampNeg a3)) &&& 31) = 1 ∧ ¬ ((X.2 (Int32.toNatClampNeg a3)) &&& 31) = 2 ∧ ¬ ((X.2 (Int32.toNatClampNeg a3)) &&& 31) = 3 ∧ ¬ ((X.2 (Int32.toNatClampNeg a3)) &&& 31) = 4 ∧ ¬ ((X.2 (Int32.toNatClampNeg a3)) &&& 31) = 5 ∧ ¬ ((X.2 (Int32.toNatClampNeg a3)) &&& 31) = 6 ∧ ¬ ((X.2 (Int32.toNatClampNeg a3)) &&& 31) = 7 ∧ ¬ ((X.2 (Int32.toNatClampNeg a3)) &&& 31) = 8 ∧ ¬ ((X.2 (Int32.toNatClampNeg a3)) &&& 31) = 9 ∧ ¬ ((X.2 (Int32.toNatClampNeg a3)) &&& 31) = 10 ∧ ¬ ((X.2 (Int32.toNatClampNeg a3)) &&& 31) = 11 ∧ ¬ ((X.2 (Int32.toNatClampNeg a3)) &&& 31) = 12 ∧ ¬ ((X.2 (Int32.toNatClampNeg a3)) &&& 31) = 13 ∧ ¬ ((X.2 (Int32.toNatClampNeg a3)) &&& 31) = 14 ∧ ¬ ((X.2 (Int32.toNatClampNeg a3)) &&& 31) = 15 ∧ ¬ ((X.2 (Int32.toNatClampNeg a3)) &&& 31) = 16 ∧ ¬ ((X.2 (Int32.toNatClampNeg a3)) &&& 31) = 17 ∧ ¬ ((X.2 (Int32.toNatClampNeg a3)) &&& 31) = 18 ∧ ¬ ((X.2 (Int32.toNatClampNeg a3)) &&& 31) = 19 ∧ ¬ ((X.2 (Int32.toNatClampNeg a3)) &&& 31) = 20 ∧ ¬ ((X.2 (Int32.toNatClampNeg a3)) &&& 31) = 21 ∧ ¬ ((X.2 (Int32.toNatClampNeg a3)) &&& 31) = 22 ∧ ¬ ((X.2 (Int32.toNatClampNeg a3)) &&& 31) = 23 ∧ ¬ ((X.2 (Int32.toNatClampNeg a3)) &&& 31) = 24 ∧ ¬ ((X.2 (Int32.toNatClampNeg a3)) &&& 31) = 25 ∧ ¬ ((X.2 (Int32.toNatClampNeg a3)) &&& 31) = 26 ∧ ¬ ((X.2 (Int32.toNatClampNeg a3)) &&& 31) = 27) → (q_Ex X d 159 18 [some (.ref 1003), some (.ref 0), some (.ref 97), some (.int (a3 + 4))] [] M (q_ri K))))))) : q_Ex X d 159 18 [some (.ref 1003), some (.ref 0), some (.ref 97), some (.int a3)] [] M (q_ri K) := by
  refine q_iload_n (pc := 18) k159_18 rfl ?_
  refine q_aload_n (pc := 19) k159_19 rfl ?_
  refine q_rlen (pc := 20) (j := 3) (v := Int32.ofNat X.1) k159_20 (by decide) rfl ?_
  refine q_iconst (pc := 21) (v := 4) k159_21 (by decide) ?_
  refine q_isub (pc := 22) k159_22 ?_
  refine q_icmp_gt (pc := 23) 780 k159_23 (by decide) (fun g1 => ?_) (fun g1 => ?_)
  · replace h := h.1 g1
    refine q_iconst (pc := 780) (v := 1) k159_780 (by decide) ?_
    exact q_zreturn (pc := 781) k159_781 rfl (by decide) ⟨_, rfl, h⟩
  · replace h := h.2 g1
    refine q_aload_n (pc := 26) k159_26 rfl ?_
    refine q_iload_n (pc := 27) k159_27 rfl ?_
    refine q_raldv (pc := 28) (j := 3) (v := X.2 (Int32.toNatClampNeg a3)) k159_28 (by decide) h.1 rfl ?_
    replace h := h.2
    refine q_bipush (pc := 29) (v := 31) k159_29 (by decide) ?_
    refine q_iand (pc := 31) k159_31 ?_
    obtain ⟨e0, e1, e2, e3, e4, e5, e6, e7, e8, e9, e10, e11, e12, e13, e14, e15, e16, e17, e18, e19, e20, e21, e22, e23, e24, e25, e26, e27, e999⟩ := h
    by_cases g0 : ((X.2 (Int32.toNatClampNeg a3)) &&& 31) = 0
    · have h := e0 g0
      refine q_tsIn (pc := 32) 160 k159_32 (off := 128) (by rw [g0]; decide) (by rw [g0]; decide) (by rw [g0]; rfl) (by decide) ?_
      refine q_aload_n (pc := 160) k159_160 rfl ?_
      refine q_aload_n (pc := 161) k159_161 rfl ?_
      refine q_iload_n (pc := 162) k159_162 rfl ?_
      refine q_iconst (pc := 163) (v := 1) k159_163 (by decide) ?_
      refine q_iadd (pc := 164) k159_164 ?_
      refine q_raldv (pc := 165) (j := 3) (v := X.2 (Int32.toNatClampNeg (a3 + 1))) k159_165 (by decide) h.1 rfl ?_
      replace h := h.2
      refine q_invV (pc := 166) (As := [.int (X.2 (Int32.toNatClampNeg (a3 + 1)))]) (st := []) k159_166 lm159_13 ov44 rfl rfl rfl (q_cat rfl) (Nat.le_of_ble_eq_true rfl) hd h ?_
      rintro v M2 ⟨r3, rfl, h⟩
      show q_Ex X d 159 (166 + 3) [some (.ref 1003), some (.ref 0), some (.ref 97), some (.int a3)] [.int r3] M2 _
      refine q_aload_n (pc := 169) k159_169 rfl ?_
      refine q_aload_n (pc := 170) k159_170 rfl ?_
      refine q_iload_n (pc := 171) k159_171 rfl ?_
      refine q_iconst (pc := 172) (v := 1) k159_172 (by decide) ?_
      refine q_iadd (pc := 173) k159_173 ?_
      refine q_raldv (pc := 174) (j := 3) (v := X.2 (Int32.toNatClampNeg (a3 + 1))) k159_174 (by decide) h.1 rfl ?_
      replace h := h.2
      refine q_invV (pc := 175) (As := [.int (X.2 (Int32.toNatClampNeg (a3 + 1)))]) (st := [.int r3]) k159_175 lm159_17 ov101 rfl rfl rfl (q_cat rfl) (Nat.le_of_ble_eq_true rfl) hd h ?_
      rintro v M4 ⟨r5, rfl, h⟩
      show q_Ex X d 159 (175 + 3) [some (.ref 1003), some (.ref 0), some (.ref 97), some (.int a3)] [.int r5, .int r3] M4 _
      refine q_icmp_eq (pc := 178) 774 k159_178 (by decide) (fun g6 => ?_) (fun g6 => ?_)
      · replace h := h.1 g6
        refine q_iinc (pc := 774) (v := a3 + 4) [some (.ref 1003), some (.ref 0), some (.ref 97), some (.int (a3 + 4))] k159_774 rfl rfl rfl (by decide) rfl ?_
        refine q_goto (pc := 777) 18 k159_777 (by decide) ?_
        exact h
      · replace h := h.2 g6
        refine q_iconst (pc := 181) (v := 0) k159_181 (by decide) ?_
        exact q_zreturn (pc := 182) k159_182 rfl (by decide) ⟨_, rfl, h⟩
    by_cases g1 : ((X.2 (Int32.toNatClampNeg a3)) &&& 31) = 1
    · have h := e1 g1
      refine q_tsIn (pc := 32) 183 k159_32 (off := 151) (by rw [g1]; decide) (by rw [g1]; decide) (by rw [g1]; rfl) (by decide) ?_
      refine q_aload_n (pc := 183) k159_183 rfl ?_
      refine q_invV (pc := 184) (As := []) (st := []) k159_184 lm159_18 ov45 rfl rfl rfl (q_cat rfl) (Nat.le_of_ble_eq_true rfl) hd h ?_
      rintro v M7 ⟨r8, rfl, h⟩
      show q_Ex X d 159 (184 + 3) [some (.ref 1003), some (.ref 0), some (.ref 97), some (.int a3)] [.int r8] M7 _
      refine q_aload_n (pc := 187) k159_187 rfl ?_
      refine q_invV (pc := 188) (As := []) (st := [.int r8]) k159_188 lm159_22 ov104 rfl rfl rfl (q_cat rfl) (Nat.le_of_ble_eq_true rfl) hd h ?_
      rintro v M9 ⟨r10, rfl, h⟩
      show q_Ex X d 159 (188 + 3) [some (.ref 1003), some (.ref 0), some (.ref 97), some (.int a3)] [.int r10, .int r8] M9 _
      refine q_icmp_eq (pc := 191) 774 k159_191 (by decide) (fun g11 => ?_) (fun g11 => ?_)
      · replace h := h.1 g11
        refine q_iinc (pc := 774) (v := a3 + 4) [some (.ref 1003), some (.ref 0), some (.ref 97), some (.int (a3 + 4))] k159_774 rfl rfl rfl (by decide) rfl ?_
        refine q_goto (pc := 777) 18 k159_777 (by decide) ?_
        exact h
      · replace h := h.2 g11
        refine q_iconst (pc := 194) (v := 0) k159_194 (by decide) ?_
        exact q_zreturn (pc := 195) k159_195 rfl (by decide) ⟨_, rfl, h⟩
    by_cases g2 : ((X.2 (Int32.toNatClampNeg a3)) &&& 31) = 2
    · have h := e2 g2
      refine q_tsIn (pc := 32) 196 k159_32 (off := 164) (by rw [g2]; decide) (by rw [g2]; decide) (by rw [g2]; rfl) (by decide) ?_
      refine q_aload_n (pc := 196) k159_196 rfl ?_
      refine q_aload_n (pc := 197) k159_197 rfl ?_
      refine q_iload_n (pc := 198) k159_198 rfl ?_
      refine q_iconst (pc := 199) (v := 1) k159_199 (by decide) ?_
      refine q_iadd (pc := 200) k159_200 ?_
      refine q_raldv (pc := 201) (j := 3) (v := X.2 (Int32.toNatClampNeg (a3 + 1))) k159_201 (by decide) h.1 rfl ?_
      replace h := h.2
      refine q_aload_n (pc := 202) k159_202 rfl ?_
      refine q_iload_n (pc := 203) k159_203 rfl ?_
      refine q_iconst (pc := 204) (v := 2) k159_204 (by decide) ?_
      refine q_iadd (pc := 205) k159_205 ?_
      refine q_raldv (pc := 206) (j := 3) (v := X.2 (Int32.toNatClampNeg (a3 + 2))) k159_206 (by decide) h.1 rfl ?_
      replace h := h.2
      refine q_invV (pc := 207) (As := [.int (X.2 (Int32.toNatClampNeg (a3 + 1))), .int (X.2 (Int32.toNatClampNeg (a3 + 2)))]) (st := []) k159_207 lm159_23 ov46 rfl rfl rfl (q_cat rfl) (Nat.le_of_ble_eq_true rfl) hd h ?_
      rintro v M12 ⟨r13, rfl, h⟩
      show q_Ex X d 159 (207 + 3) [some (.ref 1003), some (.ref 0), some (.ref 97), some (.int a3)] [.int r13] M12 _
      refine q_aload_n (pc := 210) k159_210 rfl ?_
      refine q_aload_n (pc := 211) k159_211 rfl ?_
      refine q_iload_n (pc := 212) k159_212 rfl ?_
      refine q_iconst (pc := 213) (v := 1) k159_213 (by decide) ?_
      refine q_iadd (pc := 214) k159_214 ?_
      refine q_raldv (pc := 215) (j := 3) (v := X.2 (Int32.toNatClampNeg (a3 + 1))) k159_215 (by decide) h.1 rfl ?_
      replace h := h.2
      refine q_aload_n (pc := 216) k159_216 rfl ?_
      refine q_iload_n (pc := 217) k159_217 rfl ?_
      refine q_iconst (pc := 218) (v := 2) k159_218 (by decide) ?_
      refine q_iadd (pc := 219) k159_219 ?_
      refine q_raldv (pc := 220) (j := 3) (v := X.2 (Int32.toNatClampNeg (a3 + 2))) k159_220 (by decide) h.1 rfl ?_
      replace h := h.2
      refine q_invV (pc := 221) (As := [.int (X.2 (Int32.toNatClampNeg (a3 + 1))), .int (X.2 (Int32.toNatClampNeg (a3 + 2)))]) (st := [.int r13]) k159_221 lm159_27 ov105 rfl rfl rfl (q_cat rfl) (Nat.le_of_ble_eq_true rfl) hd h ?_
      rintro v M14 ⟨r15, rfl, h⟩
      show q_Ex X d 159 (221 + 3) [some (.ref 1003), some (.ref 0), some (.ref 97), some (.int a3)] [.int r15, .int r13] M14 _
      refine q_icmp_eq (pc := 224) 774 k159_224 (by decide) (fun g16 => ?_) (fun g16 => ?_)
      · replace h := h.1 g16
        refine q_iinc (pc := 774) (v := a3 + 4) [some (.ref 1003), some (.ref 0), some (.ref 97), some (.int (a3 + 4))] k159_774 rfl rfl rfl (by decide) rfl ?_
        refine q_goto (pc := 777) 18 k159_777 (by decide) ?_
        exact h
      · replace h := h.2 g16
        refine q_iconst (pc := 227) (v := 0) k159_227 (by decide) ?_
        exact q_zreturn (pc := 228) k159_228 rfl (by decide) ⟨_, rfl, h⟩
    by_cases g3 : ((X.2 (Int32.toNatClampNeg a3)) &&& 31) = 3
    · have h := e3 g3
      refine q_tsIn (pc := 32) 229 k159_32 (off := 197) (by rw [g3]; decide) (by rw [g3]; decide) (by rw [g3]; rfl) (by decide) ?_
      refine q_aload_n (pc := 229) k159_229 rfl ?_
      refine q_aload_n (pc := 230) k159_230 rfl ?_
      refine q_iload_n (pc := 231) k159_231 rfl ?_
      refine q_iconst (pc := 232) (v := 1) k159_232 (by decide) ?_
      refine q_iadd (pc := 233) k159_233 ?_
      refine q_raldv (pc := 234) (j := 3) (v := X.2 (Int32.toNatClampNeg (a3 + 1))) k159_234 (by decide) h.1 rfl ?_
      replace h := h.2
      refine q_invV (pc := 235) (As := [.int (X.2 (Int32.toNatClampNeg (a3 + 1)))]) (st := []) k159_235 lm159_28 ov47 rfl rfl rfl (q_cat rfl) (Nat.le_of_ble_eq_true rfl) hd h ?_
      rintro v M17 ⟨r18, rfl, h⟩
      show q_Ex X d 159 (235 + 3) [some (.ref 1003), some (.ref 0), some (.ref 97), some (.int a3)] [.int r18] M17 _
      refine q_aload_n (pc := 238) k159_238 rfl ?_
      refine q_aload_n (pc := 239) k159_239 rfl ?_
      refine q_iload_n (pc := 240) k159_240 rfl ?_
      refine q_iconst (pc := 241) (v := 1) k159_241 (by decide) ?_
      refine q_iadd (pc := 242) k159_242 ?_
      refine q_raldv (pc := 243) (j := 3) (v := X.2 (Int32.toNatClampNeg (a3 + 1))) k159_243 (by decide) h.1 rfl ?_
      replace h := h.2
      refine q_invV (pc := 244) (As := [.int (X.2 (Int32.toNatClampNeg (a3 + 1)))]) (st := [.int r18]) k159_244 lm159_31 ov106 rfl rfl rfl (q_cat rfl) (Nat.le_of_ble_eq_true rfl) hd h ?_
      rintro v M19 ⟨r20, rfl, h⟩
      show q_Ex X d 159 (244 + 3) [some (.ref 1003), some (.ref 0), some (.ref 97), some (.int a3)] [.int r20, .int r18] M19 _
      refine q_icmp_eq (pc := 247) 774 k159_247 (by decide) (fun g21 => ?_) (fun g21 => ?_)
      · replace h := h.1 g21
        refine q_iinc (pc := 774) (v := a3 + 4) [some (.ref 1003), some (.ref 0), some (.ref 97), some (.int (a3 + 4))] k159_774 rfl rfl rfl (by decide) rfl ?_
        refine q_goto (pc := 777) 18 k159_777 (by decide) ?_
        exact h
      · replace h := h.2 g21
        refine q_iconst (pc := 250) (v := 0) k159_250 (by decide) ?_
        exact q_zreturn (pc := 251) k159_251 rfl (by decide) ⟨_, rfl, h⟩
    by_cases g4 : ((X.2 (Int32.toNatClampNeg a3)) &&& 31) = 4
    · have h := e4 g4
      refine q_tsIn (pc := 32) 252 k159_32 (off := 220) (by rw [g4]; decide) (by rw [g4]; decide) (by rw [g4]; rfl) (by decide) ?_
      refine q_aload_n (pc := 252) k159_252 rfl ?_
      refine q_aload_n (pc := 253) k159_253 rfl ?_
      refine q_iload_n (pc := 254) k159_254 rfl ?_
      refine q_iconst (pc := 255) (v := 1) k159_255 (by decide) ?_
      refine q_iadd (pc := 256) k159_256 ?_
      refine q_raldv (pc := 257) (j := 3) (v := X.2 (Int32.toNatClampNeg (a3 + 1))) k159_257 (by decide) h.1 rfl ?_
      replace h := h.2
      refine q_invV (pc := 258) (As := [.int (X.2 (Int32.toNatClampNeg (a3 + 1)))]) (st := []) k159_258 lm159_32 ov48 rfl rfl rfl (q_cat rfl) (Nat.le_of_ble_eq_true rfl) hd h ?_
      rintro v M22 ⟨r23, rfl, h⟩
      show q_Ex X d 159 (258 + 3) [some (.ref 1003), some (.ref 0), some (.ref 97), some (.int a3)] [.int r23] M22 _
      refine q_aload_n (pc := 261) k159_261 rfl ?_
      refine q_aload_n (pc := 262) k159_262 rfl ?_
      refine q_iload_n (pc := 263) k159_263 rfl ?_
      refine q_iconst (pc := 264) (v := 1) k159_264 (by decide) ?_
      refine q_iadd (pc := 265) k159_265 ?_
      refine q_raldv (pc := 266) (j := 3) (v := X.2 (Int32.toNatClampNeg (a3 + 1))) k159_266 (by decide) h.1 rfl ?_
      replace h := h.2
      refine q_invV (pc := 267) (As := [.int (X.2 (Int32.toNatClampNeg (a3 + 1)))]) (st := [.int r23]) k159_267 lm159_35 ov109 rfl rfl rfl (q_cat rfl) (Nat.le_of_ble_eq_true rfl) hd h ?_
      rintro v M24 ⟨r25, rfl, h⟩
      show q_Ex X d 159 (267 + 3) [some (.ref 1003), some (.ref 0), some (.ref 97), some (.int a3)] [.int r25, .int r23] M24 _
      refine q_icmp_eq (pc := 270) 774 k159_270 (by decide) (fun g26 => ?_) (fun g26 => ?_)
      · replace h := h.1 g26
        refine q_iinc (pc := 774) (v := a3 + 4) [some (.ref 1003), some (.ref 0), some (.ref 97), some (.int (a3 + 4))] k159_774 rfl rfl rfl (by decide) rfl ?_
        refine q_goto (pc := 777) 18 k159_777 (by decide) ?_
        exact h
      · replace h := h.2 g26
        refine q_iconst (pc := 273) (v := 0) k159_273 (by decide) ?_
        exact q_zreturn (pc := 274) k159_274 rfl (by decide) ⟨_, rfl, h⟩
    by_cases g5 : ((X.2 (Int32.toNatClampNeg a3)) &&& 31) = 5
    · have h := e5 g5
      refine q_tsIn (pc := 32) 275 k159_32 (off := 243) (by rw [g5]; decide) (by rw [g5]; decide) (by rw [g5]; rfl) (by decide) ?_
      refine q_aload_n (pc := 275) k159_275 rfl ?_
      refine q_aload_n (pc := 276) k159_276 rfl ?_
      refine q_iload_n (pc := 277) k159_277 rfl ?_
      refine q_iconst (pc := 278) (v := 1) k159_278 (by decide) ?_
      refine q_iadd (pc := 279) k159_279 ?_
      refine q_raldv (pc := 280) (j := 3) (v := X.2 (Int32.toNatClampNeg (a3 + 1))) k159_280 (by decide) h.1 rfl ?_
      replace h := h.2
      refine q_aload_n (pc := 281) k159_281 rfl ?_
      refine q_iload_n (pc := 282) k159_282 rfl ?_
      refine q_iconst (pc := 283) (v := 2) k159_283 (by decide) ?_
      refine q_iadd (pc := 284) k159_284 ?_
      refine q_raldv (pc := 285) (j := 3) (v := X.2 (Int32.toNatClampNeg (a3 + 2))) k159_285 (by decide) h.1 rfl ?_
      replace h := h.2
      refine q_invV (pc := 286) (As := [.int (X.2 (Int32.toNatClampNeg (a3 + 1))), .int (X.2 (Int32.toNatClampNeg (a3 + 2)))]) (st := []) k159_286 lm159_36 ov49 rfl rfl rfl (q_cat rfl) (Nat.le_of_ble_eq_true rfl) hd h ?_
      rintro v M27 ⟨r28, rfl, h⟩
      show q_Ex X d 159 (286 + 3) [some (.ref 1003), some (.ref 0), some (.ref 97), some (.int a3)] [.int r28] M27 _
      refine q_aload_n (pc := 289) k159_289 rfl ?_
      refine q_aload_n (pc := 290) k159_290 rfl ?_
      refine q_iload_n (pc := 291) k159_291 rfl ?_
      refine q_iconst (pc := 292) (v := 1) k159_292 (by decide) ?_
      refine q_iadd (pc := 293) k159_293 ?_
      refine q_raldv (pc := 294) (j := 3) (v := X.2 (Int32.toNatClampNeg (a3 + 1))) k159_294 (by decide) h.1 rfl ?_
      replace h := h.2
      refine q_aload_n (pc := 295) k159_295 rfl ?_
      refine q_iload_n (pc := 296) k159_296 rfl ?_
      refine q_iconst (pc := 297) (v := 2) k159_297 (by decide) ?_
      refine q_iadd (pc := 298) k159_298 ?_
      refine q_raldv (pc := 299) (j := 3) (v := X.2 (Int32.toNatClampNeg (a3 + 2))) k159_299 (by decide) h.1 rfl ?_
      replace h := h.2
      refine q_invV (pc := 300) (As := [.int (X.2 (Int32.toNatClampNeg (a3 + 1))), .int (X.2 (Int32.toNatClampNeg (a3 + 2)))]) (st := [.int r28]) k159_300 lm159_39 ov116 rfl rfl rfl (q_cat rfl) (Nat.le_of_ble_eq_true rfl) hd h ?_
      rintro v M29 ⟨r30, rfl, h⟩
      show q_Ex X d 159 (300 + 3) [some (.ref 1003), some (.ref 0), some (.ref 97), some (.int a3)] [.int r30, .int r28] M29 _
      refine q_icmp_eq (pc := 303) 774 k159_303 (by decide) (fun g31 => ?_) (fun g31 => ?_)
      · replace h := h.1 g31
        refine q_iinc (pc := 774) (v := a3 + 4) [some (.ref 1003), some (.ref 0), some (.ref 97), some (.int (a3 + 4))] k159_774 rfl rfl rfl (by decide) rfl ?_
        refine q_goto (pc := 777) 18 k159_777 (by decide) ?_
        exact h
      · replace h := h.2 g31
        refine q_iconst (pc := 306) (v := 0) k159_306 (by decide) ?_
        exact q_zreturn (pc := 307) k159_307 rfl (by decide) ⟨_, rfl, h⟩
    by_cases g6 : ((X.2 (Int32.toNatClampNeg a3)) &&& 31) = 6
    · have h := e6 g6
      refine q_tsIn (pc := 32) 308 k159_32 (off := 276) (by rw [g6]; decide) (by rw [g6]; decide) (by rw [g6]; rfl) (by decide) ?_
      refine q_aload_n (pc := 308) k159_308 rfl ?_
      refine q_invV (pc := 309) (As := []) (st := []) k159_309 lm159_40 ov50 rfl rfl rfl (q_cat rfl) (Nat.le_of_ble_eq_true rfl) hd h ?_
      rintro v M32 ⟨r33, rfl, h⟩
      show q_Ex X d 159 (309 + 3) [some (.ref 1003), some (.ref 0), some (.ref 97), some (.int a3)] [.int r33] M32 _
      refine q_aload_n (pc := 312) k159_312 rfl ?_
      refine q_invV (pc := 313) (As := []) (st := [.int r33]) k159_313 lm159_43 ov126 rfl rfl rfl (q_cat rfl) (Nat.le_of_ble_eq_true rfl) hd h ?_
      rintro v M34 ⟨r35, rfl, h⟩
      show q_Ex X d 159 (313 + 3) [some (.ref 1003), some (.ref 0), some (.ref 97), some (.int a3)] [.int r35, .int r33] M34 _
      refine q_icmp_eq (pc := 316) 774 k159_316 (by decide) (fun g36 => ?_) (fun g36 => ?_)
      · replace h := h.1 g36
        refine q_iinc (pc := 774) (v := a3 + 4) [some (.ref 1003), some (.ref 0), some (.ref 97), some (.int (a3 + 4))] k159_774 rfl rfl rfl (by decide) rfl ?_
        refine q_goto (pc := 777) 18 k159_777 (by decide) ?_
        exact h
      · replace h := h.2 g36
        refine q_iconst (pc := 319) (v := 0) k159_319 (by decide) ?_
        exact q_zreturn (pc := 320) k159_320 rfl (by decide) ⟨_, rfl, h⟩
    by_cases g7 : ((X.2 (Int32.toNatClampNeg a3)) &&& 31) = 7
    · have h := e7 g7
      refine q_tsIn (pc := 32) 321 k159_32 (off := 289) (by rw [g7]; decide) (by rw [g7]; decide) (by rw [g7]; rfl) (by decide) ?_
      refine q_aload_n (pc := 321) k159_321 rfl ?_
      refine q_invV (pc := 322) (As := []) (st := []) k159_322 lm159_44 ov51 rfl rfl rfl (q_cat rfl) (Nat.le_of_ble_eq_true rfl) hd h ?_
      rintro v M37 ⟨r38, rfl, h⟩
      show q_Ex X d 159 (322 + 3) [some (.ref 1003), some (.ref 0), some (.ref 97), some (.int a3)] [.int r38] M37 _
      refine q_aload_n (pc := 325) k159_325 rfl ?_
      refine q_invV (pc := 326) (As := []) (st := [.int r38]) k159_326 lm159_47 ov128 rfl rfl rfl (q_cat rfl) (Nat.le_of_ble_eq_true rfl) hd h ?_
      rintro v M39 ⟨r40, rfl, h⟩
      show q_Ex X d 159 (326 + 3) [some (.ref 1003), some (.ref 0), some (.ref 97), some (.int a3)] [.int r40, .int r38] M39 _
      refine q_icmp_eq (pc := 329) 774 k159_329 (by decide) (fun g41 => ?_) (fun g41 => ?_)
      · replace h := h.1 g41
        refine q_iinc (pc := 774) (v := a3 + 4) [some (.ref 1003), some (.ref 0), some (.ref 97), some (.int (a3 + 4))] k159_774 rfl rfl rfl (by decide) rfl ?_
        refine q_goto (pc := 777) 18 k159_777 (by decide) ?_
        exact h
      · replace h := h.2 g41
        refine q_iconst (pc := 332) (v := 0) k159_332 (by decide) ?_
        exact q_zreturn (pc := 333) k159_333 rfl (by decide) ⟨_, rfl, h⟩
    by_cases g8 : ((X.2 (Int32.toNatClampNeg a3)) &&& 31) = 8
    · have h := e8 g8
      refine q_tsIn (pc := 32) 334 k159_32 (off := 302) (by rw [g8]; decide) (by rw [g8]; decide) (by rw [g8]; rfl) (by decide) ?_
      refine q_aload_n (pc := 334) k159_334 rfl ?_
      refine q_invV (pc := 335) (As := []) (st := []) k159_335 lm159_48 ov52 rfl rfl rfl (q_cat rfl) (Nat.le_of_ble_eq_true rfl) hd h ?_
      rintro v M42 ⟨r43, rfl, h⟩
      show q_Ex X d 159 (335 + 3) [some (.ref 1003), some (.ref 0), some (.ref 97), some (.int a3)] [.int r43] M42 _
      refine q_aload_n (pc := 338) k159_338 rfl ?_
      refine q_invV (pc := 339) (As := []) (st := [.int r43]) k159_339 lm159_51 ov129 rfl rfl rfl (q_cat rfl) (Nat.le_of_ble_eq_true rfl) hd h ?_
      rintro v M44 ⟨r45, rfl, h⟩
      show q_Ex X d 159 (339 + 3) [some (.ref 1003), some (.ref 0), some (.ref 97), some (.int a3)] [.int r45, .int r43] M44 _
      refine q_icmp_eq (pc := 342) 774 k159_342 (by decide) (fun g46 => ?_) (fun g46 => ?_)
      · replace h := h.1 g46
        refine q_iinc (pc := 774) (v := a3 + 4) [some (.ref 1003), some (.ref 0), some (.ref 97), some (.int (a3 + 4))] k159_774 rfl rfl rfl (by decide) rfl ?_
        refine q_goto (pc := 777) 18 k159_777 (by decide) ?_
        exact h
      · replace h := h.2 g46
        refine q_iconst (pc := 345) (v := 0) k159_345 (by decide) ?_
        exact q_zreturn (pc := 346) k159_346 rfl (by decide) ⟨_, rfl, h⟩
    by_cases g9 : ((X.2 (Int32.toNatClampNeg a3)) &&& 31) = 9
    · have h := e9 g9
      refine q_tsIn (pc := 32) 347 k159_32 (off := 315) (by rw [g9]; decide) (by rw [g9]; decide) (by rw [g9]; rfl) (by decide) ?_
      refine q_aload_n (pc := 347) k159_347 rfl ?_
      refine q_aload_n (pc := 348) k159_348 rfl ?_
      refine q_iload_n (pc := 349) k159_349 rfl ?_
      refine q_iconst (pc := 350) (v := 1) k159_350 (by decide) ?_
      refine q_iadd (pc := 351) k159_351 ?_
      refine q_raldv (pc := 352) (j := 3) (v := X.2 (Int32.toNatClampNeg (a3 + 1))) k159_352 (by decide) h.1 rfl ?_
      replace h := h.2
      refine q_invV (pc := 353) (As := [.int (X.2 (Int32.toNatClampNeg (a3 + 1)))]) (st := []) k159_353 lm159_52 ov53 rfl rfl rfl (q_cat rfl) (Nat.le_of_ble_eq_true rfl) hd h ?_
      rintro v M47 ⟨r48, rfl, h⟩
      show q_Ex X d 159 (353 + 3) [some (.ref 1003), some (.ref 0), some (.ref 97), some (.int a3)] [.int r48] M47 _
      refine q_aload_n (pc := 356) k159_356 rfl ?_
      refine q_aload_n (pc := 357) k159_357 rfl ?_
      refine q_iload_n (pc := 358) k159_358 rfl ?_
      refine q_iconst (pc := 359) (v := 1) k159_359 (by decide) ?_
      refine q_iadd (pc := 360) k159_360 ?_
      refine q_raldv (pc := 361) (j := 3) (v := X.2 (Int32.toNatClampNeg (a3 + 1))) k159_361 (by decide) h.1 rfl ?_
      replace h := h.2
      refine q_invV (pc := 362) (As := [.int (X.2 (Int32.toNatClampNeg (a3 + 1)))]) (st := [.int r48]) k159_362 lm159_55 ov130 rfl rfl rfl (q_cat rfl) (Nat.le_of_ble_eq_true rfl) hd h ?_
      rintro v M49 ⟨r50, rfl, h⟩
      show q_Ex X d 159 (362 + 3) [some (.ref 1003), some (.ref 0), some (.ref 97), some (.int a3)] [.int r50, .int r48] M49 _
      refine q_icmp_eq (pc := 365) 774 k159_365 (by decide) (fun g51 => ?_) (fun g51 => ?_)
      · replace h := h.1 g51
        refine q_iinc (pc := 774) (v := a3 + 4) [some (.ref 1003), some (.ref 0), some (.ref 97), some (.int (a3 + 4))] k159_774 rfl rfl rfl (by decide) rfl ?_
        refine q_goto (pc := 777) 18 k159_777 (by decide) ?_
        exact h
      · replace h := h.2 g51
        refine q_iconst (pc := 368) (v := 0) k159_368 (by decide) ?_
        exact q_zreturn (pc := 369) k159_369 rfl (by decide) ⟨_, rfl, h⟩
    by_cases g10 : ((X.2 (Int32.toNatClampNeg a3)) &&& 31) = 10
    · have h := e10 g10
      refine q_tsIn (pc := 32) 370 k159_32 (off := 338) (by rw [g10]; decide) (by rw [g10]; decide) (by rw [g10]; rfl) (by decide) ?_
      refine q_aload_n (pc := 370) k159_370 rfl ?_
      refine q_invV (pc := 371) (As := []) (st := []) k159_371 lm159_56 ov54 rfl rfl rfl (q_cat rfl) (Nat.le_of_ble_eq_true rfl) hd h ?_
      rintro v M52 ⟨r53, rfl, h⟩
      show q_Ex X d 159 (371 + 3) [some (.ref 1003), some (.ref 0), some (.ref 97), some (.int a3)] [.int r53] M52 _
      refine q_aload_n (pc := 374) k159_374 rfl ?_
      refine q_invV (pc := 375) (As := []) (st := [.int r53]) k159_375 lm159_59 ov131 rfl rfl rfl (q_cat rfl) (Nat.le_of_ble_eq_true rfl) hd h ?_
      rintro v M54 ⟨r55, rfl, h⟩
      show q_Ex X d 159 (375 + 3) [some (.ref 1003), some (.ref 0), some (.ref 97), some (.int a3)] [.int r55, .int r53] M54 _
      refine q_icmp_eq (pc := 378) 774 k159_378 (by decide) (fun g56 => ?_) (fun g56 => ?_)
      · replace h := h.1 g56
        refine q_iinc (pc := 774) (v := a3 + 4) [some (.ref 1003), some (.ref 0), some (.ref 97), some (.int (a3 + 4))] k159_774 rfl rfl rfl (by decide) rfl ?_
        refine q_goto (pc := 777) 18 k159_777 (by decide) ?_
        exact h
      · replace h := h.2 g56
        refine q_iconst (pc := 381) (v := 0) k159_381 (by decide) ?_
        exact q_zreturn (pc := 382) k159_382 rfl (by decide) ⟨_, rfl, h⟩
    by_cases g11 : ((X.2 (Int32.toNatClampNeg a3)) &&& 31) = 11
    · have h := e11 g11
      refine q_tsIn (pc := 32) 383 k159_32 (off := 351) (by rw [g11]; decide) (by rw [g11]; decide) (by rw [g11]; rfl) (by decide) ?_
      refine q_aload_n (pc := 383) k159_383 rfl ?_
      refine q_aload_n (pc := 384) k159_384 rfl ?_
      refine q_iload_n (pc := 385) k159_385 rfl ?_
      refine q_iconst (pc := 386) (v := 1) k159_386 (by decide) ?_
      refine q_iadd (pc := 387) k159_387 ?_
      refine q_raldv (pc := 388) (j := 3) (v := X.2 (Int32.toNatClampNeg (a3 + 1))) k159_388 (by decide) h.1 rfl ?_
      replace h := h.2
      refine q_aload_n (pc := 389) k159_389 rfl ?_
      refine q_iload_n (pc := 390) k159_390 rfl ?_
      refine q_iconst (pc := 391) (v := 2) k159_391 (by decide) ?_
      refine q_iadd (pc := 392) k159_392 ?_
      refine q_raldv (pc := 393) (j := 3) (v := X.2 (Int32.toNatClampNeg (a3 + 2))) k159_393 (by decide) h.1 rfl ?_
      replace h := h.2
      refine q_invV (pc := 394) (As := [.int (X.2 (Int32.toNatClampNeg (a3 + 1))), .int (X.2 (Int32.toNatClampNeg (a3 + 2)))]) (st := []) k159_394 lm159_60 ov55 rfl rfl rfl (q_cat rfl) (Nat.le_of_ble_eq_true rfl) hd h ?_
      rintro v M57 ⟨r58, rfl, h⟩
      show q_Ex X d 159 (394 + 3) [some (.ref 1003), some (.ref 0), some (.ref 97), some (.int a3)] [.int r58] M57 _
      refine q_aload_n (pc := 397) k159_397 rfl ?_
      refine q_aload_n (pc := 398) k159_398 rfl ?_
      refine q_iload_n (pc := 399) k159_399 rfl ?_
      refine q_iconst (pc := 400) (v := 1) k159_400 (by decide) ?_
      refine q_iadd (pc := 401) k159_401 ?_
      refine q_raldv (pc := 402) (j := 3) (v := X.2 (Int32.toNatClampNeg (a3 + 1))) k159_402 (by decide) h.1 rfl ?_
      replace h := h.2
      refine q_aload_n (pc := 403) k159_403 rfl ?_
      refine q_iload_n (pc := 404) k159_404 rfl ?_
      refine q_iconst (pc := 405) (v := 2) k159_405 (by decide) ?_
      refine q_iadd (pc := 406) k159_406 ?_
      refine q_raldv (pc := 407) (j := 3) (v := X.2 (Int32.toNatClampNeg (a3 + 2))) k159_407 (by decide) h.1 rfl ?_
      replace h := h.2
      refine q_invV (pc := 408) (As := [.int (X.2 (Int32.toNatClampNeg (a3 + 1))), .int (X.2 (Int32.toNatClampNeg (a3 + 2)))]) (st := [.int r58]) k159_408 lm159_63 ov133 rfl rfl rfl (q_cat rfl) (Nat.le_of_ble_eq_true rfl) hd h ?_
      rintro v M59 ⟨r60, rfl, h⟩
      show q_Ex X d 159 (408 + 3) [some (.ref 1003), some (.ref 0), some (.ref 97), some (.int a3)] [.int r60, .int r58] M59 _
      refine q_icmp_eq (pc := 411) 774 k159_411 (by decide) (fun g61 => ?_) (fun g61 => ?_)
      · replace h := h.1 g61
        refine q_iinc (pc := 774) (v := a3 + 4) [some (.ref 1003), some (.ref 0), some (.ref 97), some (.int (a3 + 4))] k159_774 rfl rfl rfl (by decide) rfl ?_
        refine q_goto (pc := 777) 18 k159_777 (by decide) ?_
        exact h
      · replace h := h.2 g61
        refine q_iconst (pc := 414) (v := 0) k159_414 (by decide) ?_
        exact q_zreturn (pc := 415) k159_415 rfl (by decide) ⟨_, rfl, h⟩
    by_cases g12 : ((X.2 (Int32.toNatClampNeg a3)) &&& 31) = 12
    · have h := e12 g12
      refine q_tsIn (pc := 32) 416 k159_32 (off := 384) (by rw [g12]; decide) (by rw [g12]; decide) (by rw [g12]; rfl) (by decide) ?_
      refine q_aload_n (pc := 416) k159_416 rfl ?_
      refine q_aload_n (pc := 417) k159_417 rfl ?_
      refine q_iload_n (pc := 418) k159_418 rfl ?_
      refine q_iconst (pc := 419) (v := 1) k159_419 (by decide) ?_
      refine q_iadd (pc := 420) k159_420 ?_
      refine q_raldv (pc := 421) (j := 3) (v := X.2 (Int32.toNatClampNeg (a3 + 1))) k159_421 (by decide) h.1 rfl ?_
      replace h := h.2
      refine q_aload_n (pc := 422) k159_422 rfl ?_
      refine q_iload_n (pc := 423) k159_423 rfl ?_
      refine q_iconst (pc := 424) (v := 2) k159_424 (by decide) ?_
      refine q_iadd (pc := 425) k159_425 ?_
      refine q_raldv (pc := 426) (j := 3) (v := X.2 (Int32.toNatClampNeg (a3 + 2))) k159_426 (by decide) h.1 rfl ?_
      replace h := h.2
      refine q_aload_n (pc := 427) k159_427 rfl ?_
      refine q_iload_n (pc := 428) k159_428 rfl ?_
      refine q_iconst (pc := 429) (v := 3) k159_429 (by decide) ?_
      refine q_iadd (pc := 430) k159_430 ?_
      refine q_raldv (pc := 431) (j := 3) (v := X.2 (Int32.toNatClampNeg (a3 + 3))) k159_431 (by decide) h.1 rfl ?_
      replace h := h.2
      refine q_invV (pc := 432) (As := [.int (X.2 (Int32.toNatClampNeg (a3 + 1))), .int (X.2 (Int32.toNatClampNeg (a3 + 2))), .int (X.2 (Int32.toNatClampNeg (a3 + 3)))]) (st := []) k159_432 lm159_64 ov56 rfl rfl rfl (q_cat rfl) (Nat.le_of_ble_eq_true rfl) hd h ?_
      rintro v M62 ⟨r63, rfl, h⟩
      show q_Ex X d 159 (432 + 3) [some (.ref 1003), some (.ref 0), some (.ref 97), some (.int a3)] [.int r63] M62 _
      refine q_aload_n (pc := 435) k159_435 rfl ?_
      refine q_aload_n (pc := 436) k159_436 rfl ?_
      refine q_iload_n (pc := 437) k159_437 rfl ?_
      refine q_iconst (pc := 438) (v := 1) k159_438 (by decide) ?_
      refine q_iadd (pc := 439) k159_439 ?_
      refine q_raldv (pc := 440) (j := 3) (v := X.2 (Int32.toNatClampNeg (a3 + 1))) k159_440 (by decide) h.1 rfl ?_
      replace h := h.2
      refine q_aload_n (pc := 441) k159_441 rfl ?_
      refine q_iload_n (pc := 442) k159_442 rfl ?_
      refine q_iconst (pc := 443) (v := 2) k159_443 (by decide) ?_
      refine q_iadd (pc := 444) k159_444 ?_
      refine q_raldv (pc := 445) (j := 3) (v := X.2 (Int32.toNatClampNeg (a3 + 2))) k159_445 (by decide) h.1 rfl ?_
      replace h := h.2
      refine q_aload_n (pc := 446) k159_446 rfl ?_
      refine q_iload_n (pc := 447) k159_447 rfl ?_
      refine q_iconst (pc := 448) (v := 3) k159_448 (by decide) ?_
      refine q_iadd (pc := 449) k159_449 ?_
      refine q_raldv (pc := 450) (j := 3) (v := X.2 (Int32.toNatClampNeg (a3 + 3))) k159_450 (by decide) h.1 rfl ?_
      replace h := h.2
      refine q_invV (pc := 451) (As := [.int (X.2 (Int32.toNatClampNeg (a3 + 1))), .int (X.2 (Int32.toNatClampNeg (a3 + 2))), .int (X.2 (Int32.toNatClampNeg (a3 + 3)))]) (st := [.int r63]) k159_451 lm159_68 ov135 rfl rfl rfl (q_cat rfl) (Nat.le_of_ble_eq_true rfl) hd h ?_
      rintro v M64 ⟨r65, rfl, h⟩
      show q_Ex X d 159 (451 + 3) [some (.ref 1003), some (.ref 0), some (.ref 97), some (.int a3)] [.int r65, .int r63] M64 _
      refine q_icmp_eq (pc := 454) 774 k159_454 (by decide) (fun g66 => ?_) (fun g66 => ?_)
      · replace h := h.1 g66
        refine q_iinc (pc := 774) (v := a3 + 4) [some (.ref 1003), some (.ref 0), some (.ref 97), some (.int (a3 + 4))] k159_774 rfl rfl rfl (by decide) rfl ?_
        refine q_goto (pc := 777) 18 k159_777 (by decide) ?_
        exact h
      · replace h := h.2 g66
        refine q_iconst (pc := 457) (v := 0) k159_457 (by decide) ?_
        exact q_zreturn (pc := 458) k159_458 rfl (by decide) ⟨_, rfl, h⟩
    by_cases g13 : ((X.2 (Int32.toNatClampNeg a3)) &&& 31) = 13
    · have h := e13 g13
      refine q_tsIn (pc := 32) 459 k159_32 (off := 427) (by rw [g13]; decide) (by rw [g13]; decide) (by rw [g13]; rfl) (by decide) ?_
      refine q_aload_n (pc := 459) k159_459 rfl ?_
      refine q_aload_n (pc := 460) k159_460 rfl ?_
      refine q_iload_n (pc := 461) k159_461 rfl ?_
      refine q_iconst (pc := 462) (v := 1) k159_462 (by decide) ?_
      refine q_iadd (pc := 463) k159_463 ?_
      refine q_raldv (pc := 464) (j := 3) (v := X.2 (Int32.toNatClampNeg (a3 + 1))) k159_464 (by decide) h.1 rfl ?_
      replace h := h.2
      refine q_aload_n (pc := 465) k159_465 rfl ?_
      refine q_iload_n (pc := 466) k159_466 rfl ?_
      refine q_iconst (pc := 467) (v := 2) k159_467 (by decide) ?_
      refine q_iadd (pc := 468) k159_468 ?_
      refine q_raldv (pc := 469) (j := 3) (v := X.2 (Int32.toNatClampNeg (a3 + 2))) k159_469 (by decide) h.1 rfl ?_
      replace h := h.2
      refine q_aload_n (pc := 470) k159_470 rfl ?_
      refine q_iload_n (pc := 471) k159_471 rfl ?_
      refine q_iconst (pc := 472) (v := 3) k159_472 (by decide) ?_
      refine q_iadd (pc := 473) k159_473 ?_
      refine q_raldv (pc := 474) (j := 3) (v := X.2 (Int32.toNatClampNeg (a3 + 3))) k159_474 (by decide) h.1 rfl ?_
      replace h := h.2
      refine q_invV (pc := 475) (As := [.int (X.2 (Int32.toNatClampNeg (a3 + 1))), .int (X.2 (Int32.toNatClampNeg (a3 + 2))), .int (X.2 (Int32.toNatClampNeg (a3 + 3)))]) (st := []) k159_475 lm159_69 ov57 rfl rfl rfl (q_cat rfl) (Nat.le_of_ble_eq_true rfl) hd h ?_
      rintro v M67 ⟨r68, rfl, h⟩
      show q_Ex X d 159 (475 + 3) [some (.ref 1003), some (.ref 0), some (.ref 97), some (.int a3)] [.int r68] M67 _
      refine q_aload_n (pc := 478) k159_478 rfl ?_
      refine q_aload_n (pc := 479) k159_479 rfl ?_
      refine q_iload_n (pc := 480) k159_480 rfl ?_
      refine q_iconst (pc := 481) (v := 1) k159_481 (by decide) ?_
      refine q_iadd (pc := 482) k159_482 ?_
      refine q_raldv (pc := 483) (j := 3) (v := X.2 (Int32.toNatClampNeg (a3 + 1))) k159_483 (by decide) h.1 rfl ?_
      replace h := h.2
      refine q_aload_n (pc := 484) k159_484 rfl ?_
      refine q_iload_n (pc := 485) k159_485 rfl ?_
      refine q_iconst (pc := 486) (v := 2) k159_486 (by decide) ?_
      refine q_iadd (pc := 487) k159_487 ?_
      refine q_raldv (pc := 488) (j := 3) (v := X.2 (Int32.toNatClampNeg (a3 + 2))) k159_488 (by decide) h.1 rfl ?_
      replace h := h.2
      refine q_aload_n (pc := 489) k159_489 rfl ?_
      refine q_iload_n (pc := 490) k159_490 rfl ?_
      refine q_iconst (pc := 491) (v := 3) k159_491 (by decide) ?_
      refine q_iadd (pc := 492) k159_492 ?_
      refine q_raldv (pc := 493) (j := 3) (v := X.2 (Int32.toNatClampNeg (a3 + 3))) k159_493 (by decide) h.1 rfl ?_
      replace h := h.2
      refine q_invV (pc := 494) (As := [.int (X.2 (Int32.toNatClampNeg (a3 + 1))), .int (X.2 (Int32.toNatClampNeg (a3 + 2))), .int (X.2 (Int32.toNatClampNeg (a3 + 3)))]) (st := [.int r68]) k159_494 lm159_72 ov136 rfl rfl rfl (q_cat rfl) (Nat.le_of_ble_eq_true rfl) hd h ?_
      rintro v M69 ⟨r70, rfl, h⟩
      show q_Ex X d 159 (494 + 3) [some (.ref 1003), some (.ref 0), some (.ref 97), some (.int a3)] [.int r70, .int r68] M69 _
      refine q_icmp_eq (pc := 497) 774 k159_497 (by decide) (fun g71 => ?_) (fun g71 => ?_)
      · replace h := h.1 g71
        refine q_iinc (pc := 774) (v := a3 + 4) [some (.ref 1003), some (.ref 0), some (.ref 97), some (.int (a3 + 4))] k159_774 rfl rfl rfl (by decide) rfl ?_
        refine q_goto (pc := 777) 18 k159_777 (by decide) ?_
        exact h
      · replace h := h.2 g71
        refine q_iconst (pc := 500) (v := 0) k159_500 (by decide) ?_
        exact q_zreturn (pc := 501) k159_501 rfl (by decide) ⟨_, rfl, h⟩
    by_cases g14 : ((X.2 (Int32.toNatClampNeg a3)) &&& 31) = 14
    · have h := e14 g14
      refine q_tsIn (pc := 32) 502 k159_32 (off := 470) (by rw [g14]; decide) (by rw [g14]; decide) (by rw [g14]; rfl) (by decide) ?_
      refine q_aload_n (pc := 502) k159_502 rfl ?_
      refine q_invV (pc := 503) (As := []) (st := []) k159_503 lm159_73 ov58 rfl rfl rfl (q_cat rfl) (Nat.le_of_ble_eq_true rfl) hd h ?_
      rintro v M72 ⟨r73, rfl, h⟩
      show q_Ex X d 159 (503 + 3) [some (.ref 1003), some (.ref 0), some (.ref 97), some (.int a3)] [.int r73] M72 _
      refine q_aload_n (pc := 506) k159_506 rfl ?_
      refine q_invV (pc := 507) (As := []) (st := [.int r73]) k159_507 lm159_76 ov139 rfl rfl rfl (q_cat rfl) (Nat.le_of_ble_eq_true rfl) hd h ?_
      rintro v M74 ⟨r75, rfl, h⟩
      show q_Ex X d 159 (507 + 3) [some (.ref 1003), some (.ref 0), some (.ref 97), some (.int a3)] [.int r75, .int r73] M74 _
      refine q_icmp_eq (pc := 510) 774 k159_510 (by decide) (fun g76 => ?_) (fun g76 => ?_)
      · replace h := h.1 g76
        refine q_iinc (pc := 774) (v := a3 + 4) [some (.ref 1003), some (.ref 0), some (.ref 97), some (.int (a3 + 4))] k159_774 rfl rfl rfl (by decide) rfl ?_
        refine q_goto (pc := 777) 18 k159_777 (by decide) ?_
        exact h
      · replace h := h.2 g76
        refine q_iconst (pc := 513) (v := 0) k159_513 (by decide) ?_
        exact q_zreturn (pc := 514) k159_514 rfl (by decide) ⟨_, rfl, h⟩
    by_cases g15 : ((X.2 (Int32.toNatClampNeg a3)) &&& 31) = 15
    · have h := e15 g15
      refine q_tsIn (pc := 32) 515 k159_32 (off := 483) (by rw [g15]; decide) (by rw [g15]; decide) (by rw [g15]; rfl) (by decide) ?_
      refine q_aload_n (pc := 515) k159_515 rfl ?_
      refine q_invV (pc := 516) (As := []) (st := []) k159_516 lm159_77 ov59 rfl rfl rfl (q_cat rfl) (Nat.le_of_ble_eq_true rfl) hd h ?_
      rintro v M77 ⟨r78, rfl, h⟩
      show q_Ex X d 159 (516 + 3) [some (.ref 1003), some (.ref 0), some (.ref 97), some (.int a3)] [.int r78] M77 _
      refine q_aload_n (pc := 519) k159_519 rfl ?_
      refine q_invV (pc := 520) (As := []) (st := [.int r78]) k159_520 lm159_80 ov140 rfl rfl rfl (q_cat rfl) (Nat.le_of_ble_eq_true rfl) hd h ?_
      rintro v M79 ⟨r80, rfl, h⟩
      show q_Ex X d 159 (520 + 3) [some (.ref 1003), some (.ref 0), some (.ref 97), some (.int a3)] [.int r80, .int r78] M79 _
      refine q_icmp_eq (pc := 523) 774 k159_523 (by decide) (fun g81 => ?_) (fun g81 => ?_)
      · replace h := h.1 g81
        refine q_iinc (pc := 774) (v := a3 + 4) [some (.ref 1003), some (.ref 0), some (.ref 97), some (.int (a3 + 4))] k159_774 rfl rfl rfl (by decide) rfl ?_
        refine q_goto (pc := 777) 18 k159_777 (by decide) ?_
        exact h
      · replace h := h.2 g81
        refine q_iconst (pc := 526) (v := 0) k159_526 (by decide) ?_
        exact q_zreturn (pc := 527) k159_527 rfl (by decide) ⟨_, rfl, h⟩
    by_cases g16 : ((X.2 (Int32.toNatClampNeg a3)) &&& 31) = 16
    · have h := e16 g16
      refine q_tsIn (pc := 32) 528 k159_32 (off := 496) (by rw [g16]; decide) (by rw [g16]; decide) (by rw [g16]; rfl) (by decide) ?_
      refine q_aload_n (pc := 528) k159_528 rfl ?_
      refine q_aload_n (pc := 529) k159_529 rfl ?_
      refine q_iload_n (pc := 530) k159_530 rfl ?_
      refine q_iconst (pc := 531) (v := 1) k159_531 (by decide) ?_
      refine q_iadd (pc := 532) k159_532 ?_
      refine q_raldv (pc := 533) (j := 3) (v := X.2 (Int32.toNatClampNeg (a3 + 1))) k159_533 (by decide) h.1 rfl ?_
      replace h := h.2
      refine q_invV (pc := 534) (As := [.int (X.2 (Int32.toNatClampNeg (a3 + 1)))]) (st := []) k159_534 lm159_81 ov60 rfl rfl rfl (q_cat rfl) (Nat.le_of_ble_eq_true rfl) hd h ?_
      rintro v M82 ⟨r83, rfl, h⟩
      show q_Ex X d 159 (534 + 3) [some (.ref 1003), some (.ref 0), some (.ref 97), some (.int a3)] [.int r83] M82 _
      refine q_aload_n (pc := 537) k159_537 rfl ?_
      refine q_aload_n (pc := 538) k159_538 rfl ?_
      refine q_iload_n (pc := 539) k159_539 rfl ?_
      refine q_iconst (pc := 540) (v := 1) k159_540 (by decide) ?_
      refine q_iadd (pc := 541) k159_541 ?_
      refine q_raldv (pc := 542) (j := 3) (v := X.2 (Int32.toNatClampNeg (a3 + 1))) k159_542 (by decide) h.1 rfl ?_
      replace h := h.2
      refine q_invV (pc := 543) (As := [.int (X.2 (Int32.toNatClampNeg (a3 + 1)))]) (st := [.int r83]) k159_543 lm159_84 ov141 rfl rfl rfl (q_cat rfl) (Nat.le_of_ble_eq_true rfl) hd h ?_
      rintro v M84 ⟨r85, rfl, h⟩
      show q_Ex X d 159 (543 + 3) [some (.ref 1003), some (.ref 0), some (.ref 97), some (.int a3)] [.int r85, .int r83] M84 _
      refine q_icmp_eq (pc := 546) 774 k159_546 (by decide) (fun g86 => ?_) (fun g86 => ?_)
      · replace h := h.1 g86
        refine q_iinc (pc := 774) (v := a3 + 4) [some (.ref 1003), some (.ref 0), some (.ref 97), some (.int (a3 + 4))] k159_774 rfl rfl rfl (by decide) rfl ?_
        refine q_goto (pc := 777) 18 k159_777 (by decide) ?_
        exact h
      · replace h := h.2 g86
        refine q_iconst (pc := 549) (v := 0) k159_549 (by decide) ?_
        exact q_zreturn (pc := 550) k159_550 rfl (by decide) ⟨_, rfl, h⟩
    by_cases g17 : ((X.2 (Int32.toNatClampNeg a3)) &&& 31) = 17
    · have h := e17 g17
      refine q_tsIn (pc := 32) 551 k159_32 (off := 519) (by rw [g17]; decide) (by rw [g17]; decide) (by rw [g17]; rfl) (by decide) ?_
      refine q_aload_n (pc := 551) k159_551 rfl ?_
      refine q_invV (pc := 552) (As := []) (st := []) k159_552 lm159_85 ov61 rfl rfl rfl (q_cat rfl) (Nat.le_of_ble_eq_true rfl) hd h ?_
      rintro v M87 ⟨r88, rfl, h⟩
      show q_Ex X d 159 (552 + 3) [some (.ref 1003), some (.ref 0), some (.ref 97), some (.int a3)] [.int r88] M87 _
      refine q_aload_n (pc := 555) k159_555 rfl ?_
      refine q_invV (pc := 556) (As := []) (st := [.int r88]) k159_556 lm159_88 ov142 rfl rfl rfl (q_cat rfl) (Nat.le_of_ble_eq_true rfl) hd h ?_
      rintro v M89 ⟨r90, rfl, h⟩
      show q_Ex X d 159 (556 + 3) [some (.ref 1003), some (.ref 0), some (.ref 97), some (.int a3)] [.int r90, .int r88] M89 _
      refine q_icmp_eq (pc := 559) 774 k159_559 (by decide) (fun g91 => ?_) (fun g91 => ?_)
      · replace h := h.1 g91
        refine q_iinc (pc := 774) (v := a3 + 4) [some (.ref 1003), some (.ref 0), some (.ref 97), some (.int (a3 + 4))] k159_774 rfl rfl rfl (by decide) rfl ?_
        refine q_goto (pc := 777) 18 k159_777 (by decide) ?_
        exact h
      · replace h := h.2 g91
        refine q_iconst (pc := 562) (v := 0) k159_562 (by decide) ?_
        exact q_zreturn (pc := 563) k159_563 rfl (by decide) ⟨_, rfl, h⟩
    by_cases g18 : ((X.2 (Int32.toNatClampNeg a3)) &&& 31) = 18
    · have h := e18 g18
      refine q_tsIn (pc := 32) 564 k159_32 (off := 532) (by rw [g18]; decide) (by rw [g18]; decide) (by rw [g18]; rfl) (by decide) ?_
      refine q_aload_n (pc := 564) k159_564 rfl ?_
      refine q_aload_n (pc := 565) k159_565 rfl ?_
      refine q_iload_n (pc := 566) k159_566 rfl ?_
      refine q_iconst (pc := 567) (v := 1) k159_567 (by decide) ?_
      refine q_iadd (pc := 568) k159_568 ?_
      refine q_raldv (pc := 569) (j := 3) (v := X.2 (Int32.toNatClampNeg (a3 + 1))) k159_569 (by decide) h.1 rfl ?_
      replace h := h.2
      refine q_invV (pc := 570) (As := [.int (X.2 (Int32.toNatClampNeg (a3 + 1)))]) (st := []) k159_570 lm159_89 ov62 rfl rfl rfl (q_cat rfl) (Nat.le_of_ble_eq_true rfl) hd h ?_
      rintro v M92 ⟨r93, rfl, h⟩
      show q_Ex X d 159 (570 + 3) [some (.ref 1003), some (.ref 0), some (.ref 97), some (.int a3)] [.int r93] M92 _
      refine q_aload_n (pc := 573) k159_573 rfl ?_
      refine q_aload_n (pc := 574) k159_574 rfl ?_
      refine q_iload_n (pc := 575) k159_575 rfl ?_
      refine q_iconst (pc := 576) (v := 1) k159_576 (by decide) ?_
      refine q_iadd (pc := 577) k159_577 ?_
      refine q_raldv (pc := 578) (j := 3) (v := X.2 (Int32.toNatClampNeg (a3 + 1))) k159_578 (by decide) h.1 rfl ?_
      replace h := h.2
      refine q_invV (pc := 579) (As := [.int (X.2 (Int32.toNatClampNeg (a3 + 1)))]) (st := [.int r93]) k159_579 lm159_92 ov143 rfl rfl rfl (q_cat rfl) (Nat.le_of_ble_eq_true rfl) hd h ?_
      rintro v M94 ⟨r95, rfl, h⟩
      show q_Ex X d 159 (579 + 3) [some (.ref 1003), some (.ref 0), some (.ref 97), some (.int a3)] [.int r95, .int r93] M94 _
      refine q_icmp_eq (pc := 582) 774 k159_582 (by decide) (fun g96 => ?_) (fun g96 => ?_)
      · replace h := h.1 g96
        refine q_iinc (pc := 774) (v := a3 + 4) [some (.ref 1003), some (.ref 0), some (.ref 97), some (.int (a3 + 4))] k159_774 rfl rfl rfl (by decide) rfl ?_
        refine q_goto (pc := 777) 18 k159_777 (by decide) ?_
        exact h
      · replace h := h.2 g96
        refine q_iconst (pc := 585) (v := 0) k159_585 (by decide) ?_
        exact q_zreturn (pc := 586) k159_586 rfl (by decide) ⟨_, rfl, h⟩
    by_cases g19 : ((X.2 (Int32.toNatClampNeg a3)) &&& 31) = 19
    · have h := e19 g19
      refine q_tsIn (pc := 32) 587 k159_32 (off := 555) (by rw [g19]; decide) (by rw [g19]; decide) (by rw [g19]; rfl) (by decide) ?_
      refine q_aload_n (pc := 587) k159_587 rfl ?_
      refine q_aload_n (pc := 588) k159_588 rfl ?_
      refine q_iload_n (pc := 589) k159_589 rfl ?_
      refine q_iconst (pc := 590) (v := 1) k159_590 (by decide) ?_
      refine q_iadd (pc := 591) k159_591 ?_
      refine q_raldv (pc := 592) (j := 3) (v := X.2 (Int32.toNatClampNeg (a3 + 1))) k159_592 (by decide) h.1 rfl ?_
      replace h := h.2
      refine q_invV (pc := 593) (As := [.int (X.2 (Int32.toNatClampNeg (a3 + 1)))]) (st := []) k159_593 lm159_93 ov63 rfl rfl rfl (q_cat rfl) (Nat.le_of_ble_eq_true rfl) hd h ?_
      rintro v M97 ⟨r98, rfl, h⟩
      show q_Ex X d 159 (593 + 3) [some (.ref 1003), some (.ref 0), some (.ref 97), some (.int a3)] [.int r98] M97 _
      refine q_aload_n (pc := 596) k159_596 rfl ?_
      refine q_aload_n (pc := 597) k159_597 rfl ?_
      refine q_iload_n (pc := 598) k159_598 rfl ?_
      refine q_iconst (pc := 599) (v := 1) k159_599 (by decide) ?_
      refine q_iadd (pc := 600) k159_600 ?_
      refine q_raldv (pc := 601) (j := 3) (v := X.2 (Int32.toNatClampNeg (a3 + 1))) k159_601 (by decide) h.1 rfl ?_
      replace h := h.2
      refine q_invV (pc := 602) (As := [.int (X.2 (Int32.toNatClampNeg (a3 + 1)))]) (st := [.int r98]) k159_602 lm159_96 ov144 rfl rfl rfl (q_cat rfl) (Nat.le_of_ble_eq_true rfl) hd h ?_
      rintro v M99 ⟨r100, rfl, h⟩
      show q_Ex X d 159 (602 + 3) [some (.ref 1003), some (.ref 0), some (.ref 97), some (.int a3)] [.int r100, .int r98] M99 _
      refine q_icmp_eq (pc := 605) 774 k159_605 (by decide) (fun g101 => ?_) (fun g101 => ?_)
      · replace h := h.1 g101
        refine q_iinc (pc := 774) (v := a3 + 4) [some (.ref 1003), some (.ref 0), some (.ref 97), some (.int (a3 + 4))] k159_774 rfl rfl rfl (by decide) rfl ?_
        refine q_goto (pc := 777) 18 k159_777 (by decide) ?_
        exact h
      · replace h := h.2 g101
        refine q_iconst (pc := 608) (v := 0) k159_608 (by decide) ?_
        exact q_zreturn (pc := 609) k159_609 rfl (by decide) ⟨_, rfl, h⟩
    by_cases g20 : ((X.2 (Int32.toNatClampNeg a3)) &&& 31) = 20
    · have h := e20 g20
      refine q_tsIn (pc := 32) 610 k159_32 (off := 578) (by rw [g20]; decide) (by rw [g20]; decide) (by rw [g20]; rfl) (by decide) ?_
      refine q_aload_n (pc := 610) k159_610 rfl ?_
      refine q_invV (pc := 611) (As := []) (st := []) k159_611 lm159_97 ov64 rfl rfl rfl (q_cat rfl) (Nat.le_of_ble_eq_true rfl) hd h ?_
      rintro v M102 ⟨r103, rfl, h⟩
      show q_Ex X d 159 (611 + 3) [some (.ref 1003), some (.ref 0), some (.ref 97), some (.int a3)] [.int r103] M102 _
      refine q_aload_n (pc := 614) k159_614 rfl ?_
      refine q_invV (pc := 615) (As := []) (st := [.int r103]) k159_615 lm159_100 ov145 rfl rfl rfl (q_cat rfl) (Nat.le_of_ble_eq_true rfl) hd h ?_
      rintro v M104 ⟨r105, rfl, h⟩
      show q_Ex X d 159 (615 + 3) [some (.ref 1003), some (.ref 0), some (.ref 97), some (.int a3)] [.int r105, .int r103] M104 _
      refine q_icmp_eq (pc := 618) 774 k159_618 (by decide) (fun g106 => ?_) (fun g106 => ?_)
      · replace h := h.1 g106
        refine q_iinc (pc := 774) (v := a3 + 4) [some (.ref 1003), some (.ref 0), some (.ref 97), some (.int (a3 + 4))] k159_774 rfl rfl rfl (by decide) rfl ?_
        refine q_goto (pc := 777) 18 k159_777 (by decide) ?_
        exact h
      · replace h := h.2 g106
        refine q_iconst (pc := 621) (v := 0) k159_621 (by decide) ?_
        exact q_zreturn (pc := 622) k159_622 rfl (by decide) ⟨_, rfl, h⟩
    by_cases g21 : ((X.2 (Int32.toNatClampNeg a3)) &&& 31) = 21
    · have h := e21 g21
      refine q_tsIn (pc := 32) 623 k159_32 (off := 591) (by rw [g21]; decide) (by rw [g21]; decide) (by rw [g21]; rfl) (by decide) ?_
      refine q_aload_n (pc := 623) k159_623 rfl ?_
      refine q_aload_n (pc := 624) k159_624 rfl ?_
      refine q_iload_n (pc := 625) k159_625 rfl ?_
      refine q_iconst (pc := 626) (v := 1) k159_626 (by decide) ?_
      refine q_iadd (pc := 627) k159_627 ?_
      refine q_raldv (pc := 628) (j := 3) (v := X.2 (Int32.toNatClampNeg (a3 + 1))) k159_628 (by decide) h.1 rfl ?_
      replace h := h.2
      refine q_aload_n (pc := 629) k159_629 rfl ?_
      refine q_iload_n (pc := 630) k159_630 rfl ?_
      refine q_iconst (pc := 631) (v := 2) k159_631 (by decide) ?_
      refine q_iadd (pc := 632) k159_632 ?_
      refine q_raldv (pc := 633) (j := 3) (v := X.2 (Int32.toNatClampNeg (a3 + 2))) k159_633 (by decide) h.1 rfl ?_
      replace h := h.2
      refine q_aload_n (pc := 634) k159_634 rfl ?_
      refine q_iload_n (pc := 635) k159_635 rfl ?_
      refine q_iconst (pc := 636) (v := 3) k159_636 (by decide) ?_
      refine q_iadd (pc := 637) k159_637 ?_
      refine q_raldv (pc := 638) (j := 3) (v := X.2 (Int32.toNatClampNeg (a3 + 3))) k159_638 (by decide) h.1 rfl ?_
      replace h := h.2
      refine q_invV (pc := 639) (As := [.int (X.2 (Int32.toNatClampNeg (a3 + 1))), .int (X.2 (Int32.toNatClampNeg (a3 + 2))), .int (X.2 (Int32.toNatClampNeg (a3 + 3)))]) (st := []) k159_639 lm159_101 ov65 rfl rfl rfl (q_cat rfl) (Nat.le_of_ble_eq_true rfl) hd h ?_
      rintro v M107 ⟨r108, rfl, h⟩
      show q_Ex X d 159 (639 + 3) [some (.ref 1003), some (.ref 0), some (.ref 97), some (.int a3)] [.int r108] M107 _
      refine q_aload_n (pc := 642) k159_642 rfl ?_
      refine q_aload_n (pc := 643) k159_643 rfl ?_
      refine q_iload_n (pc := 644) k159_644 rfl ?_
      refine q_iconst (pc := 645) (v := 1) k159_645 (by decide) ?_
      refine q_iadd (pc := 646) k159_646 ?_
      refine q_raldv (pc := 647) (j := 3) (v := X.2 (Int32.toNatClampNeg (a3 + 1))) k159_647 (by decide) h.1 rfl ?_
      replace h := h.2
      refine q_aload_n (pc := 648) k159_648 rfl ?_
      refine q_iload_n (pc := 649) k159_649 rfl ?_
      refine q_iconst (pc := 650) (v := 2) k159_650 (by decide) ?_
      refine q_iadd (pc := 651) k159_651 ?_
      refine q_raldv (pc := 652) (j := 3) (v := X.2 (Int32.toNatClampNeg (a3 + 2))) k159_652 (by decide) h.1 rfl ?_
      replace h := h.2
      refine q_aload_n (pc := 653) k159_653 rfl ?_
      refine q_iload_n (pc := 654) k159_654 rfl ?_
      refine q_iconst (pc := 655) (v := 3) k159_655 (by decide) ?_
      refine q_iadd (pc := 656) k159_656 ?_
      refine q_raldv (pc := 657) (j := 3) (v := X.2 (Int32.toNatClampNeg (a3 + 3))) k159_657 (by decide) h.1 rfl ?_
      replace h := h.2
      refine q_invV (pc := 658) (As := [.int (X.2 (Int32.toNatClampNeg (a3 + 1))), .int (X.2 (Int32.toNatClampNeg (a3 + 2))), .int (X.2 (Int32.toNatClampNeg (a3 + 3)))]) (st := [.int r108]) k159_658 lm159_104 ov147 rfl rfl rfl (q_cat rfl) (Nat.le_of_ble_eq_true rfl) hd h ?_
      rintro v M109 ⟨r110, rfl, h⟩
      show q_Ex X d 159 (658 + 3) [some (.ref 1003), some (.ref 0), some (.ref 97), some (.int a3)] [.int r110, .int r108] M109 _
      refine q_icmp_eq (pc := 661) 774 k159_661 (by decide) (fun g111 => ?_) (fun g111 => ?_)
      · replace h := h.1 g111
        refine q_iinc (pc := 774) (v := a3 + 4) [some (.ref 1003), some (.ref 0), some (.ref 97), some (.int (a3 + 4))] k159_774 rfl rfl rfl (by decide) rfl ?_
        refine q_goto (pc := 777) 18 k159_777 (by decide) ?_
        exact h
      · replace h := h.2 g111
        refine q_iconst (pc := 664) (v := 0) k159_664 (by decide) ?_
        exact q_zreturn (pc := 665) k159_665 rfl (by decide) ⟨_, rfl, h⟩
    by_cases g22 : ((X.2 (Int32.toNatClampNeg a3)) &&& 31) = 22
    · have h := e22 g22
      refine q_tsIn (pc := 32) 666 k159_32 (off := 634) (by rw [g22]; decide) (by rw [g22]; decide) (by rw [g22]; rfl) (by decide) ?_
      refine q_aload_n (pc := 666) k159_666 rfl ?_
      refine q_aload_n (pc := 667) k159_667 rfl ?_
      refine q_iload_n (pc := 668) k159_668 rfl ?_
      refine q_iconst (pc := 669) (v := 1) k159_669 (by decide) ?_
      refine q_iadd (pc := 670) k159_670 ?_
      refine q_raldv (pc := 671) (j := 3) (v := X.2 (Int32.toNatClampNeg (a3 + 1))) k159_671 (by decide) h.1 rfl ?_
      replace h := h.2
      refine q_aload_n (pc := 672) k159_672 rfl ?_
      refine q_iload_n (pc := 673) k159_673 rfl ?_
      refine q_iconst (pc := 674) (v := 2) k159_674 (by decide) ?_
      refine q_iadd (pc := 675) k159_675 ?_
      refine q_raldv (pc := 676) (j := 3) (v := X.2 (Int32.toNatClampNeg (a3 + 2))) k159_676 (by decide) h.1 rfl ?_
      replace h := h.2
      refine q_invV (pc := 677) (As := [.int (X.2 (Int32.toNatClampNeg (a3 + 1))), .int (X.2 (Int32.toNatClampNeg (a3 + 2)))]) (st := []) k159_677 lm159_105 ov66 rfl rfl rfl (q_cat rfl) (Nat.le_of_ble_eq_true rfl) hd h ?_
      rintro v M112 ⟨r113, rfl, h⟩
      show q_Ex X d 159 (677 + 3) [some (.ref 1003), some (.ref 0), some (.ref 97), some (.int a3)] [.int r113] M112 _
      refine q_aload_n (pc := 680) k159_680 rfl ?_
      refine q_aload_n (pc := 681) k159_681 rfl ?_
      refine q_iload_n (pc := 682) k159_682 rfl ?_
      refine q_iconst (pc := 683) (v := 1) k159_683 (by decide) ?_
      refine q_iadd (pc := 684) k159_684 ?_
      refine q_raldv (pc := 685) (j := 3) (v := X.2 (Int32.toNatClampNeg (a3 + 1))) k159_685 (by decide) h.1 rfl ?_
      replace h := h.2
      refine q_aload_n (pc := 686) k159_686 rfl ?_
      refine q_iload_n (pc := 687) k159_687 rfl ?_
      refine q_iconst (pc := 688) (v := 2) k159_688 (by decide) ?_
      refine q_iadd (pc := 689) k159_689 ?_
      refine q_raldv (pc := 690) (j := 3) (v := X.2 (Int32.toNatClampNeg (a3 + 2))) k159_690 (by decide) h.1 rfl ?_
      replace h := h.2
      refine q_invV (pc := 691) (As := [.int (X.2 (Int32.toNatClampNeg (a3 + 1))), .int (X.2 (Int32.toNatClampNeg (a3 + 2)))]) (st := [.int r113]) k159_691 lm159_108 ov148 rfl rfl rfl (q_cat rfl) (Nat.le_of_ble_eq_true rfl) hd h ?_
      rintro v M114 ⟨r115, rfl, h⟩
      show q_Ex X d 159 (691 + 3) [some (.ref 1003), some (.ref 0), some (.ref 97), some (.int a3)] [.int r115, .int r113] M114 _
      refine q_icmp_eq (pc := 694) 774 k159_694 (by decide) (fun g116 => ?_) (fun g116 => ?_)
      · replace h := h.1 g116
        refine q_iinc (pc := 774) (v := a3 + 4) [some (.ref 1003), some (.ref 0), some (.ref 97), some (.int (a3 + 4))] k159_774 rfl rfl rfl (by decide) rfl ?_
        refine q_goto (pc := 777) 18 k159_777 (by decide) ?_
        exact h
      · replace h := h.2 g116
        refine q_iconst (pc := 697) (v := 0) k159_697 (by decide) ?_
        exact q_zreturn (pc := 698) k159_698 rfl (by decide) ⟨_, rfl, h⟩
    by_cases g23 : ((X.2 (Int32.toNatClampNeg a3)) &&& 31) = 23
    · have h := e23 g23
      refine q_tsIn (pc := 32) 699 k159_32 (off := 667) (by rw [g23]; decide) (by rw [g23]; decide) (by rw [g23]; rfl) (by decide) ?_
      refine q_aload_n (pc := 699) k159_699 rfl ?_
      refine q_invV (pc := 700) (As := []) (st := []) k159_700 lm159_109 ov67 rfl rfl rfl (q_cat rfl) (Nat.le_of_ble_eq_true rfl) hd h ?_
      rintro v M117 ⟨r118, rfl, h⟩
      show q_Ex X d 159 (700 + 3) [some (.ref 1003), some (.ref 0), some (.ref 97), some (.int a3)] [.int r118] M117 _
      refine q_aload_n (pc := 703) k159_703 rfl ?_
      refine q_invV (pc := 704) (As := []) (st := [.int r118]) k159_704 lm159_112 ov150 rfl rfl rfl (q_cat rfl) (Nat.le_of_ble_eq_true rfl) hd h ?_
      rintro v M119 ⟨r120, rfl, h⟩
      show q_Ex X d 159 (704 + 3) [some (.ref 1003), some (.ref 0), some (.ref 97), some (.int a3)] [.int r120, .int r118] M119 _
      refine q_icmp_eq (pc := 707) 774 k159_707 (by decide) (fun g121 => ?_) (fun g121 => ?_)
      · replace h := h.1 g121
        refine q_iinc (pc := 774) (v := a3 + 4) [some (.ref 1003), some (.ref 0), some (.ref 97), some (.int (a3 + 4))] k159_774 rfl rfl rfl (by decide) rfl ?_
        refine q_goto (pc := 777) 18 k159_777 (by decide) ?_
        exact h
      · replace h := h.2 g121
        refine q_iconst (pc := 710) (v := 0) k159_710 (by decide) ?_
        exact q_zreturn (pc := 711) k159_711 rfl (by decide) ⟨_, rfl, h⟩
    by_cases g24 : ((X.2 (Int32.toNatClampNeg a3)) &&& 31) = 24
    · have h := e24 g24
      refine q_tsIn (pc := 32) 712 k159_32 (off := 680) (by rw [g24]; decide) (by rw [g24]; decide) (by rw [g24]; rfl) (by decide) ?_
      refine q_aload_n (pc := 712) k159_712 rfl ?_
      refine q_invV (pc := 713) (As := []) (st := []) k159_713 lm159_113 ov68 rfl rfl rfl (q_cat rfl) (Nat.le_of_ble_eq_true rfl) hd h ?_
      rintro v M122 ⟨r123, rfl, h⟩
      show q_Ex X d 159 (713 + 3) [some (.ref 1003), some (.ref 0), some (.ref 97), some (.int a3)] [.int r123] M122 _
      refine q_aload_n (pc := 716) k159_716 rfl ?_
      refine q_invV (pc := 717) (As := []) (st := [.int r123]) k159_717 lm159_116 ov151 rfl rfl rfl (q_cat rfl) (Nat.le_of_ble_eq_true rfl) hd h ?_
      rintro v M124 ⟨r125, rfl, h⟩
      show q_Ex X d 159 (717 + 3) [some (.ref 1003), some (.ref 0), some (.ref 97), some (.int a3)] [.int r125, .int r123] M124 _
      refine q_icmp_eq (pc := 720) 774 k159_720 (by decide) (fun g126 => ?_) (fun g126 => ?_)
      · replace h := h.1 g126
        refine q_iinc (pc := 774) (v := a3 + 4) [some (.ref 1003), some (.ref 0), some (.ref 97), some (.int (a3 + 4))] k159_774 rfl rfl rfl (by decide) rfl ?_
        refine q_goto (pc := 777) 18 k159_777 (by decide) ?_
        exact h
      · replace h := h.2 g126
        refine q_iconst (pc := 723) (v := 0) k159_723 (by decide) ?_
        exact q_zreturn (pc := 724) k159_724 rfl (by decide) ⟨_, rfl, h⟩
    by_cases g25 : ((X.2 (Int32.toNatClampNeg a3)) &&& 31) = 25
    · have h := e25 g25
      refine q_tsIn (pc := 32) 725 k159_32 (off := 693) (by rw [g25]; decide) (by rw [g25]; decide) (by rw [g25]; rfl) (by decide) ?_
      refine q_aload_n (pc := 725) k159_725 rfl ?_
      refine q_invV (pc := 726) (As := []) (st := []) k159_726 lm159_117 ov69 rfl rfl rfl (q_cat rfl) (Nat.le_of_ble_eq_true rfl) hd h ?_
      rintro v M127 ⟨r128, rfl, h⟩
      show q_Ex X d 159 (726 + 3) [some (.ref 1003), some (.ref 0), some (.ref 97), some (.int a3)] [.int r128] M127 _
      refine q_aload_n (pc := 729) k159_729 rfl ?_
      refine q_invV (pc := 730) (As := []) (st := [.int r128]) k159_730 lm159_120 ov152 rfl rfl rfl (q_cat rfl) (Nat.le_of_ble_eq_true rfl) hd h ?_
      rintro v M129 ⟨r130, rfl, h⟩
      show q_Ex X d 159 (730 + 3) [some (.ref 1003), some (.ref 0), some (.ref 97), some (.int a3)] [.int r130, .int r128] M129 _
      refine q_icmp_eq (pc := 733) 774 k159_733 (by decide) (fun g131 => ?_) (fun g131 => ?_)
      · replace h := h.1 g131
        refine q_iinc (pc := 774) (v := a3 + 4) [some (.ref 1003), some (.ref 0), some (.ref 97), some (.int (a3 + 4))] k159_774 rfl rfl rfl (by decide) rfl ?_
        refine q_goto (pc := 777) 18 k159_777 (by decide) ?_
        exact h
      · replace h := h.2 g131
        refine q_iconst (pc := 736) (v := 0) k159_736 (by decide) ?_
        exact q_zreturn (pc := 737) k159_737 rfl (by decide) ⟨_, rfl, h⟩
    by_cases g26 : ((X.2 (Int32.toNatClampNeg a3)) &&& 31) = 26
    · have h := e26 g26
      refine q_tsIn (pc := 32) 738 k159_32 (off := 706) (by rw [g26]; decide) (by rw [g26]; decide) (by rw [g26]; rfl) (by decide) ?_
      refine q_aload_n (pc := 738) k159_738 rfl ?_
      refine q_invV (pc := 739) (As := []) (st := []) k159_739 lm159_121 ov70 rfl rfl rfl (q_cat rfl) (Nat.le_of_ble_eq_true rfl) hd h ?_
      rintro v M132 ⟨r133, rfl, h⟩
      show q_Ex X d 159 (739 + 3) [some (.ref 1003), some (.ref 0), some (.ref 97), some (.int a3)] [.int r133] M132 _
      refine q_aload_n (pc := 742) k159_742 rfl ?_
      refine q_invV (pc := 743) (As := []) (st := [.int r133]) k159_743 lm159_124 ov153 rfl rfl rfl (q_cat rfl) (Nat.le_of_ble_eq_true rfl) hd h ?_
      rintro v M134 ⟨r135, rfl, h⟩
      show q_Ex X d 159 (743 + 3) [some (.ref 1003), some (.ref 0), some (.ref 97), some (.int a3)] [.int r135, .int r133] M134 _
      refine q_icmp_eq (pc := 746) 774 k159_746 (by decide) (fun g136 => ?_) (fun g136 => ?_)
      · replace h := h.1 g136
        refine q_iinc (pc := 774) (v := a3 + 4) [some (.ref 1003), some (.ref 0), some (.ref 97), some (.int (a3 + 4))] k159_774 rfl rfl rfl (by decide) rfl ?_
        refine q_goto (pc := 777) 18 k159_777 (by decide) ?_
        exact h
      · replace h := h.2 g136
        refine q_iconst (pc := 749) (v := 0) k159_749 (by decide) ?_
        exact q_zreturn (pc := 750) k159_750 rfl (by decide) ⟨_, rfl, h⟩
    by_cases g27 : ((X.2 (Int32.toNatClampNeg a3)) &&& 31) = 27
    · have h := e27 g27
      refine q_tsIn (pc := 32) 751 k159_32 (off := 719) (by rw [g27]; decide) (by rw [g27]; decide) (by rw [g27]; rfl) (by decide) ?_
      refine q_aload_n (pc := 751) k159_751 rfl ?_
      refine q_aload_n (pc := 752) k159_752 rfl ?_
      refine q_iload_n (pc := 753) k159_753 rfl ?_
      refine q_iconst (pc := 754) (v := 1) k159_754 (by decide) ?_
      refine q_iadd (pc := 755) k159_755 ?_
      refine q_raldv (pc := 756) (j := 3) (v := X.2 (Int32.toNatClampNeg (a3 + 1))) k159_756 (by decide) h.1 rfl ?_
      replace h := h.2
      refine q_invV (pc := 757) (As := [.int (X.2 (Int32.toNatClampNeg (a3 + 1)))]) (st := []) k159_757 lm159_125 ov71 rfl rfl rfl (q_cat rfl) (Nat.le_of_ble_eq_true rfl) hd h ?_
      rintro v M137 ⟨r138, rfl, h⟩
      show q_Ex X d 159 (757 + 3) [some (.ref 1003), some (.ref 0), some (.ref 97), some (.int a3)] [.int r138] M137 _
      refine q_aload_n (pc := 760) k159_760 rfl ?_
      refine q_aload_n (pc := 761) k159_761 rfl ?_
      refine q_iload_n (pc := 762) k159_762 rfl ?_
      refine q_iconst (pc := 763) (v := 1) k159_763 (by decide) ?_
      refine q_iadd (pc := 764) k159_764 ?_
      refine q_raldv (pc := 765) (j := 3) (v := X.2 (Int32.toNatClampNeg (a3 + 1))) k159_765 (by decide) h.1 rfl ?_
      replace h := h.2
      refine q_invV (pc := 766) (As := [.int (X.2 (Int32.toNatClampNeg (a3 + 1)))]) (st := [.int r138]) k159_766 lm159_128 ov154 rfl rfl rfl (q_cat rfl) (Nat.le_of_ble_eq_true rfl) hd h ?_
      rintro v M139 ⟨r140, rfl, h⟩
      show q_Ex X d 159 (766 + 3) [some (.ref 1003), some (.ref 0), some (.ref 97), some (.int a3)] [.int r140, .int r138] M139 _
      refine q_icmp_eq (pc := 769) 774 k159_769 (by decide) (fun g141 => ?_) (fun g141 => ?_)
      · replace h := h.1 g141
        refine q_iinc (pc := 774) (v := a3 + 4) [some (.ref 1003), some (.ref 0), some (.ref 97), some (.int (a3 + 4))] k159_774 rfl rfl rfl (by decide) rfl ?_
        refine q_goto (pc := 777) 18 k159_777 (by decide) ?_
        exact h
      · replace h := h.2 g141
        refine q_iconst (pc := 772) (v := 0) k159_772 (by decide) ?_
        exact q_zreturn (pc := 773) k159_773 rfl (by decide) ⟨_, rfl, h⟩
    have h := e999 ⟨g0, g1, g2, g3, g4, g5, g6, g7, g8, g9, g10, g11, g12, g13, g14, g15, g16, g17, g18, g19, g20, g21, g22, g23, g24, g25, g26, g27⟩
    refine q_tsOut (pc := 32) 774 k159_32 (by have i0 := lv_neT g0 (a := 0) rfl; have i1 := lv_neT g1 (a := 1) rfl; have i2 := lv_neT g2 (a := 2) rfl; have i3 := lv_neT g3 (a := 3) rfl; have i4 := lv_neT g4 (a := 4) rfl; have i5 := lv_neT g5 (a := 5) rfl; have i6 := lv_neT g6 (a := 6) rfl; have i7 := lv_neT g7 (a := 7) rfl; have i8 := lv_neT g8 (a := 8) rfl; have i9 := lv_neT g9 (a := 9) rfl; have i10 := lv_neT g10 (a := 10) rfl; have i11 := lv_neT g11 (a := 11) rfl; have i12 := lv_neT g12 (a := 12) rfl; have i13 := lv_neT g13 (a := 13) rfl; have i14 := lv_neT g14 (a := 14) rfl; have i15 := lv_neT g15 (a := 15) rfl; have i16 := lv_neT g16 (a := 16) rfl; have i17 := lv_neT g17 (a := 17) rfl; have i18 := lv_neT g18 (a := 18) rfl; have i19 := lv_neT g19 (a := 19) rfl; have i20 := lv_neT g20 (a := 20) rfl; have i21 := lv_neT g21 (a := 21) rfl; have i22 := lv_neT g22 (a := 22) rfl; have i23 := lv_neT g23 (a := 23) rfl; have i24 := lv_neT g24 (a := 24) rfl; have i25 := lv_neT g25 (a := 25) rfl; have i26 := lv_neT g26 (a := 26) rfl; have i27 := lv_neT g27 (a := 27) rfl; omega) (by decide) ?_
    refine q_iinc (pc := 774) (v := a3 + 4) [some (.ref 1003), some (.ref 0), some (.ref 97), some (.int (a3 + 4))] k159_774 rfl rfl rfl (by decide) rfl ?_
    refine q_goto (pc := 777) 18 k159_777 (by decide) ?_
    exact h
