set_option maxRecDepth 20000 in
theorem vc43_44 {X : Nat × (Nat → Int32)} {d : Nat} {M : q_M} {a1 a2 a3 : Int32} {K : q_M → Prop} (h : vp_in a1 3 ∧ (((126 ≤ (M 45 (Int32.toNatClampNeg a1))) → (K M)) ∧ ((¬ 126 ≤ (M 45 (Int32.toNatClampNeg a1))) → (vp_in a1 3 ∧ (vp_in (M 45 (Int32.toNatClampNeg a1)) 126 ∧ (vp_in a1 3 ∧ (vp_in (M 45 (Int32.toNatClampNeg a1)) 126 ∧ (vp_in a1 3 ∧ (K (q_set (q_set (q_set M (47 + Int32.toNatClampNeg a1) (Int32.toNatClampNeg (M 45 (Int32.toNatClampNeg a1))) a2) (51 + Int32.toNatClampNeg a1) (Int32.toNatClampNeg (M 45 (Int32.toNatClampNeg a1))) a3) 45 (Int32.toNatClampNeg a1) ((M 45 (Int32.toNatClampNeg a1)) + 1))))))))))) : q_Cv X d 43 [.ref 44, .int a1, .int a2, .int a3] M K := by
  show q_Ex X d 43 0 [some (.ref 44), some (.int a1), some (.int a2), some (.int a3), none] [] M (q_rn K)
  refine q_aload_n (pc := 0) k43_0 rfl ?_
  refine q_getR (pc := 1) k43_1 fg43_9 rfl rfl ?_
  refine q_iload_n (pc := 4) k43_4 rfl ?_
  refine q_ialdv (pc := 5) (v := M 45 (Int32.toNatClampNeg a1)) k43_5 rfl h.1 rfl ?_
  replace h := h.2
  refine q_istore (pc := 6) [some (.ref 44), some (.int a1), some (.int a2), some (.int a3), some (.int (M 45 (Int32.toNatClampNeg a1)))] k43_6 rfl (by decide) rfl ?_
  refine q_iload (pc := 8) k43_8 rfl ?_
  refine q_bipush (pc := 10) (v := 126) k43_10 (by decide) ?_
  refine q_icmp_ge (pc := 12) 45 k43_12 (by decide) (fun g => ?_) (fun g => ?_)
  · replace h := h.1 g
    exact q_return (pc := 45) k43_45 rfl ⟨rfl, h⟩
  · replace h := h.2 g
    refine q_aload_n (pc := 15) k43_15 rfl ?_
    refine q_getR (pc := 16) k43_16 fg43_17 rfl rfl ?_
    refine q_iload_n (pc := 19) k43_19 rfl ?_
    have w1 := h.1
    replace h := h.2
    refine q_aald (pc := 20) k43_20 rfl w1 ?_
    refine q_iload (pc := 21) k43_21 rfl ?_
    refine q_iload_n (pc := 23) k43_23 rfl ?_
    refine q_iastv (pc := 24) (k := (Int32.toNatClampNeg (M 45 (Int32.toNatClampNeg a1)))) k43_24 (rw46 w1) h.1 rfl ?_
    replace h := h.2
    refine q_aload_n (pc := 25) k43_25 rfl ?_
    refine q_getR (pc := 26) k43_26 fg43_20 rfl rfl ?_
    refine q_iload_n (pc := 29) k43_29 rfl ?_
    have w2 := h.1
    replace h := h.2
    refine q_aald (pc := 30) k43_30 rfl w2 ?_
    refine q_iload (pc := 31) k43_31 rfl ?_
    refine q_iload_n (pc := 33) k43_33 rfl ?_
    refine q_iastv (pc := 34) (k := (Int32.toNatClampNeg (M 45 (Int32.toNatClampNeg a1)))) k43_34 (rw50 w2) h.1 rfl ?_
    replace h := h.2
    refine q_aload_n (pc := 35) k43_35 rfl ?_
    refine q_getR (pc := 36) k43_36 fg43_9 rfl rfl ?_
    refine q_iload_n (pc := 39) k43_39 rfl ?_
    refine q_iload (pc := 40) k43_40 rfl ?_
    refine q_iconst (pc := 42) (v := 1) k43_42 (by decide) ?_
    refine q_iadd (pc := 43) k43_43 ?_
    refine q_iastv (pc := 44) (k := (Int32.toNatClampNeg a1)) k43_44 rfl h.1 rfl ?_
    replace h := h.2
    exact q_return (pc := 45) k43_45 rfl ⟨rfl, h⟩
set_option maxRecDepth 20000 in
theorem vc41_54 {X : Nat × (Nat → Int32)} {d : Nat} (hd : 0 < d) {M : q_M} {a1 : Int32} {K : q_M → Prop} (h : q_Ex X d 41 17 [some (.ref 54), none, some (.int 0)] [] (q_set M 54 1 (if (M 11 4) < a1 then (M 11 4) else a1)) (q_rn K)) : q_Cv X d 41 [.ref 54, .int a1] M K := by
  show q_Ex X d 41 0 [some (.ref 54), some (.int a1), none] [] M (q_rn K)
  refine q_aload_n (pc := 0) k41_0 rfl ?_
  refine q_iload_n (pc := 1) k41_1 rfl ?_
  refine q_aload_n (pc := 2) k41_2 rfl ?_
  refine q_getR (pc := 3) k41_3 fg41_23 rfl rfl ?_
  refine q_getIv (pc := 6) (v := M 11 4) k41_6 fg41_27 rfl rfl rfl ?_
  refine q_mmin (pc := 9) k41_9 lx41_33 oc_min (Nat.le_of_ble_eq_true rfl) ?_
  refine q_putI (pc := 12) k41_12 fp41_39 rfl rfl ?_
  refine q_iconst (pc := 15) (v := 0) k41_15 (by decide) ?_
  refine q_istore_n (pc := 16) [some (.ref 54), some (.int a1), some (.int 0)] k41_16 rfl (by decide) rfl ?_
  exact q_forget [some (.ref 54), none, some (.int 0)] (q_subOk (And.intro rfl (And.intro rfl (trivial)))) h
set_option maxRecDepth 20000 in
theorem vc41_54_p17 {X : Nat × (Nat → Int32)} {d : Nat} (hd : 0 < d) {M : q_M} {a2 : Int32} {K : q_M → Prop} (h : (((M 54 1) ≤ a2) → (K M)) ∧ ((¬ (M 54 1) ≤ a2) → (vp_in a2 3 ∧ (q_Ci X (d - 1) 25 [.ref 11, .int a2] (q_set M 55 (Int32.toNatClampNeg a2) 0) (fun r2 M1 => q_Cv X (d - 1) 42 [.ref 54, .int a2, .int r2, .int 0, .int 0] M1 (fun M3 => q_Ex X d 41 17 [some (.ref 54), none, some (.int (a2 + 1))] [] M3 (q_rn K))))))) : q_Ex X d 41 17 [some (.ref 54), none, some (.int a2)] [] M (q_rn K) := by
  refine q_iload_n (pc := 17) k41_17 rfl ?_
  refine q_aload_n (pc := 18) k41_18 rfl ?_
  refine q_getIv (pc := 19) (v := M 54 1) k41_19 fg41_39 rfl rfl rfl ?_
  refine q_icmp_ge (pc := 22) 53 k41_22 (by decide) (fun g => ?_) (fun g => ?_)
  · replace h := h.1 g
    exact q_return (pc := 53) k41_53 rfl ⟨rfl, h⟩
  · replace h := h.2 g
    refine q_aload_n (pc := 25) k41_25 rfl ?_
    refine q_getR (pc := 26) k41_26 fg41_9 rfl rfl ?_
    refine q_iload_n (pc := 29) k41_29 rfl ?_
    refine q_iconst (pc := 30) (v := 0) k41_30 (by decide) ?_
    refine q_iastv (pc := 31) (k := (Int32.toNatClampNeg a2)) k41_31 rfl h.1 rfl ?_
    replace h := h.2
    refine q_aload_n (pc := 32) k41_32 rfl ?_
    refine q_iload_n (pc := 33) k41_33 rfl ?_
    refine q_aload_n (pc := 34) k41_34 rfl ?_
    refine q_getR (pc := 35) k41_35 fg41_23 rfl rfl ?_
    refine q_iload_n (pc := 38) k41_38 rfl ?_
    refine q_invV (pc := 39) (As := [.int a2]) (st := [.int a2, .ref 54]) k41_39 lm41_40 ov25 rfl rfl rfl (q_cat rfl) (Nat.le_of_ble_eq_true rfl) hd h ?_
    rintro v M1 ⟨r2, rfl, h⟩
    show q_Ex X d 41 (39 + 3) [some (.ref 54), none, some (.int a2)] [.int r2, .int a2, .ref 54] M1 _
    refine q_iconst (pc := 42) (v := 0) k41_42 (by decide) ?_
    refine q_iconst (pc := 43) (v := 0) k41_43 (by decide) ?_
    refine q_invV (pc := 44) (As := [.int a2, .int r2, .int 0, .int 0]) (st := []) k41_44 lm41_44 ov42 rfl rfl rfl (q_cat rfl) (Nat.le_of_ble_eq_true rfl) hd h ?_
    rintro v M3 ⟨rfl, h⟩
    show q_Ex X d 41 (44 + 3) [some (.ref 54), none, some (.int a2)] [] M3 _
    refine q_iinc (pc := 47) (v := a2 + 1) [some (.ref 54), none, some (.int (a2 + 1))] k41_47 rfl rfl rfl (by decide) rfl ?_
    refine q_goto (pc := 50) 17 k41_50 (by decide) ?_
    exact h
set_option maxRecDepth 20000 in
theorem vc42_54 {X : Nat × (Nat → Int32)} {d : Nat} {M : q_M} {a1 a2 a3 a4 : Int32} {K : q_M → Prop} (h : ((a2 < 0) → (K M)) ∧ ((¬ a2 < 0) → (((a4 ≤ 10) → (q_Ex X d 42 22 [some (.ref 54), some (.int a1), some (.int a2), none, some (.int a4), some (.int (a3 ||| (1 <<< (a2 &&& 31)))), some (.int 0), none, none] [] M (q_rn K))) ∧ ((¬ a4 ≤ 10) → (K M))))) : q_Cv X d 42 [.ref 54, .int a1, .int a2, .int a3, .int a4] M K := by
  show q_Ex X d 42 0 [some (.ref 54), some (.int a1), some (.int a2), some (.int a3), some (.int a4), none, none, none, none] [] M (q_rn K)
  refine q_iload_n (pc := 0) k42_0 rfl ?_
  refine q_if_lt (pc := 1) 11 k42_1 (by decide) (fun g => ?_) (fun g => ?_)
  · replace h := h.1 g
    exact q_return (pc := 11) k42_11 rfl ⟨rfl, h⟩
  · replace h := h.2 g
    refine q_iload (pc := 4) k42_4 rfl ?_
    refine q_bipush (pc := 6) (v := 10) k42_6 (by decide) ?_
    refine q_icmp_le (pc := 8) 12 k42_8 (by decide) (fun g => ?_) (fun g => ?_)
    · replace h := h.1 g
      refine q_iload_n (pc := 12) k42_12 rfl ?_
      refine q_iconst (pc := 13) (v := 1) k42_13 (by decide) ?_
      refine q_iload_n (pc := 14) k42_14 rfl ?_
      refine q_ishl (pc := 15) k42_15 ?_
      refine q_ior (pc := 16) k42_16 ?_
      refine q_istore (pc := 17) [some (.ref 54), some (.int a1), some (.int a2), some (.int a3), some (.int a4), some (.int (a3 ||| (1 <<< (a2 &&& 31)))), none, none, none] k42_17 rfl (by decide) rfl ?_
      refine q_iconst (pc := 19) (v := 0) k42_19 (by decide) ?_
      refine q_istore (pc := 20) [some (.ref 54), some (.int a1), some (.int a2), some (.int a3), some (.int a4), some (.int (a3 ||| (1 <<< (a2 &&& 31)))), some (.int 0), none, none] k42_20 rfl (by decide) rfl ?_
      exact q_forget [some (.ref 54), some (.int a1), some (.int a2), none, some (.int a4), some (.int (a3 ||| (1 <<< (a2 &&& 31)))), some (.int 0), none, none] (q_subOk (And.intro rfl (And.intro rfl (And.intro rfl (And.intro rfl (And.intro rfl (And.intro rfl (trivial)))))))) h
    · replace h := h.2 g
      exact q_return (pc := 11) k42_11 rfl ⟨rfl, h⟩
set_option maxRecDepth 20000 in
theorem vc42_54_p22 {X : Nat × (Nat → Int32)} {d : Nat} (hd : 0 < d) {M : q_M} {a1 a2 a4 a5 a6 : Int32} {K : q_M → Prop} (h : ((1 < a6) → (K M)) ∧ ((¬ 1 < a6) → (q_Ci X (d - 1) 27 [.ref 11, .int a2, .int a6] M (fun r2 M1 => ((r2 < 0) → (q_Ex X d 42 22 [some (.ref 54), some (.int a1), some (.int a2), none, some (.int a4), some (.int a5), some (.int (a6 + 1)), none, none] [] M1 (q_rn K))) ∧ ((¬ r2 < 0) → (vp_in r2 30 ∧ ((((M1 14 (Int32.toNatClampNeg r2)) < 0) → (q_Cv X (d - 1) 42 [.ref 54, .int a1, .int r2, .int a5, .int (a4 + 1)] M1 (fun M3 => q_Ex X d 42 22 [some (.ref 54), some (.int a1), some (.int a2), none, some (.int a4), some (.int a5), some (.int (a6 + 1)), none, none] [] M3 (q_rn K)))) ∧ ((¬ (M1 14 (Int32.toNatClampNeg r2)) < 0) → (vp_in r2 30 ∧ ((((M1 14 (Int32.toNatClampNeg r2)) < (M1 54 1)) → (vp_in r2 30 ∧ (((¬ (M1 12 (Int32.toNatClampNeg r2)) = 3) → (q_Ex X d 42 22 [some (.ref 54), some (.int a1), some (.int a2), none, some (.int a4), some (.int a5), some (.int (a6 + 1)), none, none] [] M1 (q_rn K))) ∧ (((M1 12 (Int32.toNatClampNeg r2)) = 3) → (vp_in r2 30 ∧ (q_Cv X (d - 1) 43 [.ref 54, .int a1, .int (a5 ||| (1 <<< (r2 &&& 31))), .int (M1 14 (Int32.toNatClampNeg r2))] M1 (fun M4 => q_Ex X d 42 22 [some (.ref 54), some (.int a1), some (.int a2), none, some (.int a4), some (.int a5), some (.int (a6 + 1)), none, none] [] M4 (q_rn K)))))))) ∧ ((¬ (M1 14 (Int32.toNatClampNeg r2)) < (M1 54 1)) → (q_Cv X (d - 1) 42 [.ref 54, .int a1, .int r2, .int a5, .int (a4 + 1)] M1 (fun M5 => q_Ex X d 42 22 [some (.ref 54), some (.int a1), some (.int a2), none, some (.int a4), some (.int a5), some (.int (a6 + 1)), none, none] [] M5 (q_rn K)))))))))))))) : q_Ex X d 42 22 [some (.ref 54), some (.int a1), some (.int a2), none, some (.int a4), some (.int a5), some (.int a6), none, none] [] M (q_rn K) := by
  refine q_iload (pc := 22) k42_22 rfl ?_
  refine q_iconst (pc := 24) (v := 1) k42_24 (by decide) ?_
  refine q_icmp_gt (pc := 25) 145 k42_25 (by decide) (fun g => ?_) (fun g => ?_)
  · replace h := h.1 g
    exact q_return (pc := 145) k42_145 rfl ⟨rfl, h⟩
  · replace h := h.2 g
    refine q_aload_n (pc := 28) k42_28 rfl ?_
    refine q_getR (pc := 29) k42_29 fg42_23 rfl rfl ?_
    refine q_iload_n (pc := 32) k42_32 rfl ?_
    refine q_iload (pc := 33) k42_33 rfl ?_
    refine q_invV (pc := 35) (As := [.int a2, .int a6]) (st := []) k42_35 lm42_48 ov27 rfl rfl rfl (q_cat rfl) (Nat.le_of_ble_eq_true rfl) hd h ?_
    rintro v M1 ⟨r2, rfl, h⟩
    show q_Ex X d 42 (35 + 3) [some (.ref 54), some (.int a1), some (.int a2), none, some (.int a4), some (.int a5), some (.int a6), none, none] [.int r2] M1 _
    refine q_istore (pc := 38) [some (.ref 54), some (.int a1), some (.int a2), none, some (.int a4), some (.int a5), some (.int a6), some (.int r2), none] k42_38 rfl (by decide) rfl ?_
    refine q_iload (pc := 40) k42_40 rfl ?_
    refine q_if_lt (pc := 42) 139 k42_42 (by decide) (fun g => ?_) (fun g => ?_)
    · replace h := h.1 g
      refine q_iinc (pc := 139) (v := a6 + 1) [some (.ref 54), some (.int a1), some (.int a2), none, some (.int a4), some (.int a5), some (.int (a6 + 1)), some (.int r2), none] k42_139 rfl rfl rfl (by decide) rfl ?_
      refine q_goto (pc := 142) 22 k42_142 (by decide) ?_
      exact q_forget [some (.ref 54), some (.int a1), some (.int a2), none, some (.int a4), some (.int a5), some (.int (a6 + 1)), none, none] (q_subOk (And.intro rfl (And.intro rfl (And.intro rfl (And.intro rfl (And.intro rfl (And.intro rfl (trivial)))))))) h
    · replace h := h.2 g
      refine q_aload_n (pc := 45) k42_45 rfl ?_
      refine q_getR (pc := 46) k42_46 fg42_23 rfl rfl ?_
      refine q_getR (pc := 49) k42_49 fg42_51 rfl rfl ?_
      refine q_iload (pc := 52) k42_52 rfl ?_
      refine q_ialdv (pc := 54) (v := M1 14 (Int32.toNatClampNeg r2)) k42_54 rfl h.1 rfl ?_
      replace h := h.2
      refine q_if_lt (pc := 55) 75 k42_55 (by decide) (fun g => ?_) (fun g => ?_)
      · replace h := h.1 g
        refine q_iconst (pc := 75) (v := 1) k42_75 (by decide) ?_
        refine q_goto (pc := 76) 80 k42_76 (by decide) ?_
        refine q_istore (pc := 80) [some (.ref 54), some (.int a1), some (.int a2), none, some (.int a4), some (.int a5), some (.int a6), some (.int r2), some (.int 1)] k42_80 rfl (by decide) rfl ?_
        refine q_iload (pc := 82) k42_82 rfl ?_
        refine q_if_eq (pc := 84) 103 k42_84 (by decide) (fun g => absurd g (by decide)) (fun _ => ?_)
        refine q_aload_n (pc := 87) k42_87 rfl ?_
        refine q_iload_n (pc := 88) k42_88 rfl ?_
        refine q_iload (pc := 89) k42_89 rfl ?_
        refine q_iload (pc := 91) k42_91 rfl ?_
        refine q_iload (pc := 93) k42_93 rfl ?_
        refine q_iconst (pc := 95) (v := 1) k42_95 (by decide) ?_
        refine q_iadd (pc := 96) k42_96 ?_
        refine q_invV (pc := 97) (As := [.int a1, .int r2, .int a5, .int (a4 + 1)]) (st := []) k42_97 lm42_44 ov42 rfl rfl rfl (q_cat rfl) (Nat.le_of_ble_eq_true rfl) hd h ?_
        rintro v M3 ⟨rfl, h⟩
        show q_Ex X d 42 (97 + 3) [some (.ref 54), some (.int a1), some (.int a2), none, some (.int a4), some (.int a5), some (.int a6), some (.int r2), some (.int 1)] [] M3 _
        refine q_goto (pc := 100) 139 k42_100 (by decide) ?_
        refine q_iinc (pc := 139) (v := a6 + 1) [some (.ref 54), some (.int a1), some (.int a2), none, some (.int a4), some (.int a5), some (.int (a6 + 1)), some (.int r2), some (.int 1)] k42_139 rfl rfl rfl (by decide) rfl ?_
        refine q_goto (pc := 142) 22 k42_142 (by decide) ?_
        exact q_forget [some (.ref 54), some (.int a1), some (.int a2), none, some (.int a4), some (.int a5), some (.int (a6 + 1)), none, none] (q_subOk (And.intro rfl (And.intro rfl (And.intro rfl (And.intro rfl (And.intro rfl (And.intro rfl (trivial)))))))) h
      · replace h := h.2 g
        refine q_aload_n (pc := 58) k42_58 rfl ?_
        refine q_getR (pc := 59) k42_59 fg42_23 rfl rfl ?_
        refine q_getR (pc := 62) k42_62 fg42_51 rfl rfl ?_
        refine q_iload (pc := 65) k42_65 rfl ?_
        refine q_ialdv (pc := 67) (v := M1 14 (Int32.toNatClampNeg r2)) k42_67 rfl h.1 rfl ?_
        replace h := h.2
        refine q_aload_n (pc := 68) k42_68 rfl ?_
        refine q_getIv (pc := 69) (v := M1 54 1) k42_69 fg42_39 rfl rfl rfl ?_
        refine q_icmp_lt (pc := 72) 79 k42_72 (by decide) (fun g => ?_) (fun g => ?_)
        · replace h := h.1 g
          refine q_iconst (pc := 79) (v := 0) k42_79 (by decide) ?_
          refine q_istore (pc := 80) [some (.ref 54), some (.int a1), some (.int a2), none, some (.int a4), some (.int a5), some (.int a6), some (.int r2), some (.int 0)] k42_80 rfl (by decide) rfl ?_
          refine q_iload (pc := 82) k42_82 rfl ?_
          refine q_if_eq (pc := 84) 103 k42_84 (by decide) (fun _ => ?_) (fun g => absurd g (by decide))
          refine q_aload_n (pc := 103) k42_103 rfl ?_
          refine q_getR (pc := 104) k42_104 fg42_23 rfl rfl ?_
          refine q_getR (pc := 107) k42_107 fg42_54 rfl rfl ?_
          refine q_iload (pc := 110) k42_110 rfl ?_
          refine q_ialdv (pc := 112) (v := M1 12 (Int32.toNatClampNeg r2)) k42_112 rfl h.1 rfl ?_
          replace h := h.2
          refine q_iconst (pc := 113) (v := 3) k42_113 (by decide) ?_
          refine q_icmp_ne (pc := 114) 139 k42_114 (by decide) (fun g => ?_) (fun g => ?_)
          · replace h := h.1 g
            refine q_iinc (pc := 139) (v := a6 + 1) [some (.ref 54), some (.int a1), some (.int a2), none, some (.int a4), some (.int a5), some (.int (a6 + 1)), some (.int r2), some (.int 0)] k42_139 rfl rfl rfl (by decide) rfl ?_
            refine q_goto (pc := 142) 22 k42_142 (by decide) ?_
            exact q_forget [some (.ref 54), some (.int a1), some (.int a2), none, some (.int a4), some (.int a5), some (.int (a6 + 1)), none, none] (q_subOk (And.intro rfl (And.intro rfl (And.intro rfl (And.intro rfl (And.intro rfl (And.intro rfl (trivial)))))))) h
          · replace h := h.2 g
            refine q_aload_n (pc := 117) k42_117 rfl ?_
            refine q_iload_n (pc := 118) k42_118 rfl ?_
            refine q_iload (pc := 119) k42_119 rfl ?_
            refine q_iconst (pc := 121) (v := 1) k42_121 (by decide) ?_
            refine q_iload (pc := 122) k42_122 rfl ?_
            refine q_ishl (pc := 124) k42_124 ?_
            refine q_ior (pc := 125) k42_125 ?_
            refine q_aload_n (pc := 126) k42_126 rfl ?_
            refine q_getR (pc := 127) k42_127 fg42_23 rfl rfl ?_
            refine q_getR (pc := 130) k42_130 fg42_51 rfl rfl ?_
            refine q_iload (pc := 133) k42_133 rfl ?_
            refine q_ialdv (pc := 135) (v := M1 14 (Int32.toNatClampNeg r2)) k42_135 rfl h.1 rfl ?_
            replace h := h.2
            refine q_invV (pc := 136) (As := [.int a1, .int (a5 ||| (1 <<< (r2 &&& 31))), .int (M1 14 (Int32.toNatClampNeg r2))]) (st := []) k42_136 lm42_57 ov43 rfl rfl rfl (q_cat rfl) (Nat.le_of_ble_eq_true rfl) hd h ?_
            rintro v M4 ⟨rfl, h⟩
            show q_Ex X d 42 (136 + 3) [some (.ref 54), some (.int a1), some (.int a2), none, some (.int a4), some (.int a5), some (.int a6), some (.int r2), some (.int 0)] [] M4 _
            refine q_iinc (pc := 139) (v := a6 + 1) [some (.ref 54), some (.int a1), some (.int a2), none, some (.int a4), some (.int a5), some (.int (a6 + 1)), some (.int r2), some (.int 0)] k42_139 rfl rfl rfl (by decide) rfl ?_
            refine q_goto (pc := 142) 22 k42_142 (by decide) ?_
            exact q_forget [some (.ref 54), some (.int a1), some (.int a2), none, some (.int a4), some (.int a5), some (.int (a6 + 1)), none, none] (q_subOk (And.intro rfl (And.intro rfl (And.intro rfl (And.intro rfl (And.intro rfl (And.intro rfl (trivial)))))))) h
        · replace h := h.2 g
          refine q_iconst (pc := 75) (v := 1) k42_75 (by decide) ?_
          refine q_goto (pc := 76) 80 k42_76 (by decide) ?_
          refine q_istore (pc := 80) [some (.ref 54), some (.int a1), some (.int a2), none, some (.int a4), some (.int a5), some (.int a6), some (.int r2), some (.int 1)] k42_80 rfl (by decide) rfl ?_
          refine q_iload (pc := 82) k42_82 rfl ?_
          refine q_if_eq (pc := 84) 103 k42_84 (by decide) (fun g => absurd g (by decide)) (fun _ => ?_)
          refine q_aload_n (pc := 87) k42_87 rfl ?_
          refine q_iload_n (pc := 88) k42_88 rfl ?_
          refine q_iload (pc := 89) k42_89 rfl ?_
          refine q_iload (pc := 91) k42_91 rfl ?_
          refine q_iload (pc := 93) k42_93 rfl ?_
          refine q_iconst (pc := 95) (v := 1) k42_95 (by decide) ?_
          refine q_iadd (pc := 96) k42_96 ?_
          refine q_invV (pc := 97) (As := [.int a1, .int r2, .int a5, .int (a4 + 1)]) (st := []) k42_97 lm42_44 ov42 rfl rfl rfl (q_cat rfl) (Nat.le_of_ble_eq_true rfl) hd h ?_
          rintro v M5 ⟨rfl, h⟩
          show q_Ex X d 42 (97 + 3) [some (.ref 54), some (.int a1), some (.int a2), none, some (.int a4), some (.int a5), some (.int a6), some (.int r2), some (.int 1)] [] M5 _
          refine q_goto (pc := 100) 139 k42_100 (by decide) ?_
          refine q_iinc (pc := 139) (v := a6 + 1) [some (.ref 54), some (.int a1), some (.int a2), none, some (.int a4), some (.int a5), some (.int (a6 + 1)), some (.int r2), some (.int 1)] k42_139 rfl rfl rfl (by decide) rfl ?_
          refine q_goto (pc := 142) 22 k42_142 (by decide) ?_
          exact q_forget [some (.ref 54), some (.int a1), some (.int a2), none, some (.int a4), some (.int a5), some (.int (a6 + 1)), none, none] (q_subOk (And.intro rfl (And.intro rfl (And.intro rfl (And.intro rfl (And.intro rfl (And.intro rfl (trivial)))))))) h
set_option maxRecDepth 20000 in
theorem vc43_54 {X : Nat × (Nat → Int32)} {d : Nat} {M : q_M} {a1 a2 a3 : Int32} {K : q_M → Prop} (h : vp_in a1 3 ∧ (((126 ≤ (M 55 (Int32.toNatClampNeg a1))) → (K M)) ∧ ((¬ 126 ≤ (M 55 (Int32.toNatClampNeg a1))) → (vp_in a1 3 ∧ (vp_in (M 55 (Int32.toNatClampNeg a1)) 126 ∧ (vp_in a1 3 ∧ (vp_in (M 55 (Int32.toNatClampNeg a1)) 126 ∧ (vp_in a1 3 ∧ (K (q_set (q_set (q_set M (57 + Int32.toNatClampNeg a1) (Int32.toNatClampNeg (M 55 (Int32.toNatClampNeg a1))) a2) (61 + Int32.toNatClampNeg a1) (Int32.toNatClampNeg (M 55 (Int32.toNatClampNeg a1))) a3) 55 (Int32.toNatClampNeg a1) ((M 55 (Int32.toNatClampNeg a1)) + 1))))))))))) : q_Cv X d 43 [.ref 54, .int a1, .int a2, .int a3] M K := by
  show q_Ex X d 43 0 [some (.ref 54), some (.int a1), some (.int a2), some (.int a3), none] [] M (q_rn K)
  refine q_aload_n (pc := 0) k43_0 rfl ?_
  refine q_getR (pc := 1) k43_1 fg43_9 rfl rfl ?_
  refine q_iload_n (pc := 4) k43_4 rfl ?_
  refine q_ialdv (pc := 5) (v := M 55 (Int32.toNatClampNeg a1)) k43_5 rfl h.1 rfl ?_
  replace h := h.2
  refine q_istore (pc := 6) [some (.ref 54), some (.int a1), some (.int a2), some (.int a3), some (.int (M 55 (Int32.toNatClampNeg a1)))] k43_6 rfl (by decide) rfl ?_
  refine q_iload (pc := 8) k43_8 rfl ?_
  refine q_bipush (pc := 10) (v := 126) k43_10 (by decide) ?_
  refine q_icmp_ge (pc := 12) 45 k43_12 (by decide) (fun g => ?_) (fun g => ?_)
  · replace h := h.1 g
    exact q_return (pc := 45) k43_45 rfl ⟨rfl, h⟩
  · replace h := h.2 g
    refine q_aload_n (pc := 15) k43_15 rfl ?_
    refine q_getR (pc := 16) k43_16 fg43_17 rfl rfl ?_
    refine q_iload_n (pc := 19) k43_19 rfl ?_
    have w1 := h.1
    replace h := h.2
    refine q_aald (pc := 20) k43_20 rfl w1 ?_
    refine q_iload (pc := 21) k43_21 rfl ?_
    refine q_iload_n (pc := 23) k43_23 rfl ?_
    refine q_iastv (pc := 24) (k := (Int32.toNatClampNeg (M 55 (Int32.toNatClampNeg a1)))) k43_24 (rw56 w1) h.1 rfl ?_
    replace h := h.2
    refine q_aload_n (pc := 25) k43_25 rfl ?_
    refine q_getR (pc := 26) k43_26 fg43_20 rfl rfl ?_
    refine q_iload_n (pc := 29) k43_29 rfl ?_
    have w2 := h.1
    replace h := h.2
    refine q_aald (pc := 30) k43_30 rfl w2 ?_
    refine q_iload (pc := 31) k43_31 rfl ?_
    refine q_iload_n (pc := 33) k43_33 rfl ?_
    refine q_iastv (pc := 34) (k := (Int32.toNatClampNeg (M 55 (Int32.toNatClampNeg a1)))) k43_34 (rw60 w2) h.1 rfl ?_
    replace h := h.2
    refine q_aload_n (pc := 35) k43_35 rfl ?_
    refine q_getR (pc := 36) k43_36 fg43_9 rfl rfl ?_
    refine q_iload_n (pc := 39) k43_39 rfl ?_
    refine q_iload (pc := 40) k43_40 rfl ?_
    refine q_iconst (pc := 42) (v := 1) k43_42 (by decide) ?_
    refine q_iadd (pc := 43) k43_43 ?_
    refine q_iastv (pc := 44) (k := (Int32.toNatClampNeg a1)) k43_44 rfl h.1 rfl ?_
    replace h := h.2
    exact q_return (pc := 45) k43_45 rfl ⟨rfl, h⟩
set_option maxRecDepth 20000 in
theorem vc44 {X : Nat × (Nat → Int32)} {d : Nat} (hd : 0 < d) {M : q_M} {a1 : Int32} {K : Int32 → q_M → Prop} (h : ((0 ≤ a1) → (((255 < a1) → (q_Ci X (d - 1) 72 [.ref 0, .int (-6)] M (fun r2 M1 => K r2 M1))) ∧ ((¬ 255 < a1) → ((((M 0 1) < 48) → (vp_in (M 0 1) 48 ∧ (K ((M 0 1) + 1) (q_set (q_set M 1 (Int32.toNatClampNeg (M 0 1)) a1) 0 1 ((M 0 1) + 1))))) ∧ ((¬ (M 0 1) < 48) → (q_Ci X (d - 1) 72 [.ref 0, .int (-6)] M (fun r4 M3 => K r4 M3))))))) ∧ ((¬ 0 ≤ a1) → (q_Ci X (d - 1) 72 [.ref 0, .int (-4)] M (fun r6 M5 => K r6 M5)))) : q_Ci X d 44 [.ref 0, .int a1] M K := by
  show q_Ex X d 44 0 [some (.ref 0), some (.int a1)] [] M (q_ri K)
  refine q_iload_n (pc := 0) k44_0 rfl ?_
  refine q_if_ge (pc := 1) 11 k44_1 (by decide) (fun g => ?_) (fun g => ?_)
  · replace h := h.1 g
    refine q_iload_n (pc := 11) k44_11 rfl ?_
    refine q_sipush (pc := 12) (v := 255) k44_12 (by decide) ?_
    refine q_icmp_gt (pc := 15) 27 k44_15 (by decide) (fun g => ?_) (fun g => ?_)
    · replace h := h.1 g
      refine q_aload_n (pc := 27) k44_27 rfl ?_
      refine q_bipush (pc := 28) (v := (-6)) k44_28 (by decide) ?_
      refine q_invV (pc := 30) (As := [.int (-6)]) (st := []) k44_30 lm44_100 ov72 rfl rfl rfl (q_cat rfl) (Nat.le_of_ble_eq_true rfl) hd h ?_
      rintro v M1 ⟨r2, rfl, h⟩
      show q_Ex X d 44 (30 + 3) [some (.ref 0), some (.int a1)] [.int r2] M1 _
      exact q_ireturn (pc := 33) k44_33 rfl ⟨_, rfl, h⟩
    · replace h := h.2 g
      refine q_aload_n (pc := 18) k44_18 rfl ?_
      refine q_getIv (pc := 19) (v := M 0 1) k44_19 fg44_104 rfl rfl rfl ?_
      refine q_bipush (pc := 22) (v := 48) k44_22 (by decide) ?_
      refine q_icmp_lt (pc := 24) 34 k44_24 (by decide) (fun g => ?_) (fun g => ?_)
      · replace h := h.1 g
        refine q_aload_n (pc := 34) k44_34 rfl ?_
        refine q_getR (pc := 35) k44_35 fg44_9 rfl rfl ?_
        refine q_aload_n (pc := 38) k44_38 rfl ?_
        refine q_getIv (pc := 39) (v := M 0 1) k44_39 fg44_104 rfl rfl rfl ?_
        refine q_iload_n (pc := 42) k44_42 rfl ?_
        refine q_iastv (pc := 43) (k := (Int32.toNatClampNeg (M 0 1))) k44_43 rfl h.1 rfl ?_
        replace h := h.2
        refine q_aload_n (pc := 44) k44_44 rfl ?_
        refine q_dup (pc := 45) k44_45 rfl ?_
        refine q_getIv (pc := 46) (v := M 0 1) k44_46 fg44_104 rfl rfl rfl ?_
        refine q_iconst (pc := 49) (v := 1) k44_49 (by decide) ?_
        refine q_iadd (pc := 50) k44_50 ?_
        refine q_putI (pc := 51) k44_51 fp44_104 rfl rfl ?_
        refine q_aload_n (pc := 54) k44_54 rfl ?_
        refine q_getIv (pc := 55) (v := (M 0 1) + 1) k44_55 fg44_104 rfl rfl rfl ?_
        exact q_ireturn (pc := 58) k44_58 rfl ⟨_, rfl, h⟩
      · replace h := h.2 g
        refine q_aload_n (pc := 27) k44_27 rfl ?_
        refine q_bipush (pc := 28) (v := (-6)) k44_28 (by decide) ?_
        refine q_invV (pc := 30) (As := [.int (-6)]) (st := []) k44_30 lm44_100 ov72 rfl rfl rfl (q_cat rfl) (Nat.le_of_ble_eq_true rfl) hd h ?_
        rintro v M3 ⟨r4, rfl, h⟩
        show q_Ex X d 44 (30 + 3) [some (.ref 0), some (.int a1)] [.int r4] M3 _
        exact q_ireturn (pc := 33) k44_33 rfl ⟨_, rfl, h⟩
  · replace h := h.2 g
    refine q_aload_n (pc := 4) k44_4 rfl ?_
    refine q_bipush (pc := 5) (v := (-4)) k44_5 (by decide) ?_
    refine q_invV (pc := 7) (As := [.int (-4)]) (st := []) k44_7 lm44_100 ov72 rfl rfl rfl (q_cat rfl) (Nat.le_of_ble_eq_true rfl) hd h ?_
    rintro v M5 ⟨r6, rfl, h⟩
    show q_Ex X d 44 (7 + 3) [some (.ref 0), some (.int a1)] [.int r6] M5 _
    exact q_ireturn (pc := 10) k44_10 rfl ⟨_, rfl, h⟩
set_option maxRecDepth 20000 in
theorem vc45 {X : Nat × (Nat → Int32)} {d : Nat} (hd : 0 < d) {M : q_M} {K : Int32 → q_M → Prop} (h : q_Ci X (d - 1) 16 [.ref 3, .ref 1, .int (M 0 1)] M (fun r2 M1 => ((r2 = 0) → (q_Cv X (d - 1) 4 [.ref 10, .ref 3, .int ((M1 0 14) + 1)] (q_set (q_set M1 0 1 0) 0 14 ((M1 0 14) + 1)) (fun M3 => K (M3 11 2) (q_set M3 0 16 (-1))))) ∧ ((¬ r2 = 0) → (K r2 (q_set M1 0 1 0))))) : q_Ci X d 45 [.ref 0] M K := by
  show q_Ex X d 45 0 [some (.ref 0), none] [] M (q_ri K)
  refine q_aload_n (pc := 0) k45_0 rfl ?_
  refine q_getR (pc := 1) k45_1 fg45_19 rfl rfl ?_
  refine q_aload_n (pc := 4) k45_4 rfl ?_
  refine q_getR (pc := 5) k45_5 fg45_9 rfl rfl ?_
  refine q_aload_n (pc := 8) k45_8 rfl ?_
  refine q_getIv (pc := 9) (v := M 0 1) k45_9 fg45_104 rfl rfl rfl ?_
  refine q_invV (pc := 12) (As := [.ref 1, .int (M 0 1)]) (st := []) k45_12 lm45_107 ov16 rfl rfl rfl (q_cat rfl) (Nat.le_of_ble_eq_true rfl) hd h ?_
  rintro v M1 ⟨r2, rfl, h⟩
  show q_Ex X d 45 (12 + 3) [some (.ref 0), none] [.int r2] M1 _
  refine q_istore_n (pc := 15) [some (.ref 0), some (.int r2)] k45_15 rfl (by decide) rfl ?_
  refine q_aload_n (pc := 16) k45_16 rfl ?_
  refine q_iconst (pc := 17) (v := 0) k45_17 (by decide) ?_
  refine q_putI (pc := 18) k45_18 fp45_104 rfl rfl ?_
  refine q_iload_n (pc := 21) k45_21 rfl ?_
  refine q_if_eq (pc := 22) 27 k45_22 (by decide) (fun g => ?_) (fun g => ?_)
  · replace h := h.1 g
    refine q_aload_n (pc := 27) k45_27 rfl ?_
    refine q_dup (pc := 28) k45_28 rfl ?_
    refine q_getIv (pc := 29) (v := M1 0 14) k45_29 fg45_111 rfl rfl rfl ?_
    refine q_iconst (pc := 32) (v := 1) k45_32 (by decide) ?_
    refine q_iadd (pc := 33) k45_33 ?_
    refine q_putI (pc := 34) k45_34 fp45_111 rfl rfl ?_
    refine q_aload_n (pc := 37) k45_37 rfl ?_
    refine q_getR (pc := 38) k45_38 fg45_26 rfl rfl ?_
    refine q_aload_n (pc := 41) k45_41 rfl ?_
    refine q_getR (pc := 42) k45_42 fg45_19 rfl rfl ?_
    refine q_aload_n (pc := 45) k45_45 rfl ?_
    refine q_getIv (pc := 46) (v := (M1 0 14) + 1) k45_46 fg45_111 rfl rfl rfl ?_
    refine q_invV (pc := 49) (As := [.ref 3, .int ((M1 0 14) + 1)]) (st := []) k45_49 lm45_114 ov4 rfl rfl rfl (q_cat rfl) (Nat.le_of_ble_eq_true rfl) hd h ?_
    rintro v M3 ⟨rfl, h⟩
    show q_Ex X d 45 (49 + 3) [some (.ref 0), some (.int r2)] [] M3 _
    refine q_aload_n (pc := 52) k45_52 rfl ?_
    refine q_iconst (pc := 53) (v := (-1)) k45_53 (by decide) ?_
    refine q_putI (pc := 54) k45_54 fp45_58 rfl rfl ?_
    refine q_aload_n (pc := 57) k45_57 rfl ?_
    refine q_getR (pc := 58) k45_58 fg45_26 rfl rfl ?_
    refine q_getR (pc := 61) k45_61 fg45_63 rfl rfl ?_
    refine q_getIv (pc := 64) (v := M3 11 2) k45_64 fg45_118 rfl rfl rfl ?_
    exact q_ireturn (pc := 67) k45_67 rfl ⟨_, rfl, h⟩
  · replace h := h.2 g
    refine q_iload_n (pc := 25) k45_25 rfl ?_
    exact q_ireturn (pc := 26) k45_26 rfl ⟨_, rfl, h⟩
set_option maxRecDepth 20000 in
theorem vc46 {X : Nat × (Nat → Int32)} {d : Nat} (hd : 0 < d) {M : q_M} {a1 a2 : Int32} {K : Int32 → q_M → Prop} (h : q_Ci X (d - 1) 23 [.ref 11, .int a1] M (fun r2 M1 => ((¬ r2 = 0) → ((a2 = 0 → (vp_in a1 30 ∧ (K (M1 12 (Int32.toNatClampNeg a1)) M1))) ∧ (a2 = 1 → (vp_in a1 30 ∧ (K (M1 13 (Int32.toNatClampNeg a1)) M1))) ∧ (a2 = 2 → (vp_in a1 30 ∧ (K (M1 14 (Int32.toNatClampNeg a1)) M1))) ∧ ((¬ a2 = 0 ∧ ¬ a2 = 1 ∧ ¬ a2 = 2) → (q_Ci X (d - 1) 72 [.ref 0, .int (-2)] M1 (fun r4 M3 => K r4 M3))))) ∧ ((r2 = 0) → (q_Ci X (d - 1) 72 [.ref 0, .int (-1)] M1 (fun r6 M5 => K r6 M5))))) : q_Ci X d 46 [.ref 0, .int a1, .int a2] M K := by
  show q_Ex X d 46 0 [some (.ref 0), some (.int a1), some (.int a2)] [] M (q_ri K)
  refine q_aload_n (pc := 0) k46_0 rfl ?_
  refine q_getR (pc := 1) k46_1 fg46_26 rfl rfl ?_
  refine q_getR (pc := 4) k46_4 fg46_63 rfl rfl ?_
  refine q_iload_n (pc := 7) k46_7 rfl ?_
  refine q_invV (pc := 8) (As := [.int a1]) (st := []) k46_8 lm46_121 ov23 rfl rfl rfl (q_cat rfl) (Nat.le_of_ble_eq_true rfl) hd h ?_
  rintro v M1 ⟨r2, rfl, h⟩
  show q_Ex X d 46 (8 + 3) [some (.ref 0), some (.int a1), some (.int a2)] [.int r2] M1 _
  refine q_if_ne (pc := 11) 20 k46_11 (by decide) (fun g => ?_) (fun g => ?_)
  · replace h := h.1 g
    refine q_iload_n (pc := 20) k46_20 rfl ?_
    obtain ⟨e0, e1, e2, e999⟩ := h
    by_cases g0 : a2 = 0
    · have h := e0 g0
      refine q_tsIn (pc := 21) 48 k46_21 (off := 27) (by rw [g0]; decide) (by rw [g0]; decide) (by rw [g0]; rfl) (by decide) ?_
      refine q_aload_n (pc := 48) k46_48 rfl ?_
      refine q_getR (pc := 49) k46_49 fg46_26 rfl rfl ?_
      refine q_getR (pc := 52) k46_52 fg46_63 rfl rfl ?_
      refine q_getR (pc := 55) k46_55 fg46_125 rfl rfl ?_
      refine q_iload_n (pc := 58) k46_58 rfl ?_
      refine q_ialdv (pc := 59) (v := M1 12 (Int32.toNatClampNeg a1)) k46_59 rfl h.1 rfl ?_
      replace h := h.2
      exact q_ireturn (pc := 60) k46_60 rfl ⟨_, rfl, h⟩
    by_cases g1 : a2 = 1
    · have h := e1 g1
      refine q_tsIn (pc := 21) 61 k46_21 (off := 40) (by rw [g1]; decide) (by rw [g1]; decide) (by rw [g1]; rfl) (by decide) ?_
      refine q_aload_n (pc := 61) k46_61 rfl ?_
      refine q_getR (pc := 62) k46_62 fg46_26 rfl rfl ?_
      refine q_getR (pc := 65) k46_65 fg46_63 rfl rfl ?_
      refine q_getR (pc := 68) k46_68 fg46_128 rfl rfl ?_
      refine q_iload_n (pc := 71) k46_71 rfl ?_
      refine q_ialdv (pc := 72) (v := M1 13 (Int32.toNatClampNeg a1)) k46_72 rfl h.1 rfl ?_
      replace h := h.2
      exact q_ireturn (pc := 73) k46_73 rfl ⟨_, rfl, h⟩
    by_cases g2 : a2 = 2
    · have h := e2 g2
      refine q_tsIn (pc := 21) 74 k46_21 (off := 53) (by rw [g2]; decide) (by rw [g2]; decide) (by rw [g2]; rfl) (by decide) ?_
      refine q_aload_n (pc := 74) k46_74 rfl ?_
      refine q_getR (pc := 75) k46_75 fg46_26 rfl rfl ?_
      refine q_getR (pc := 78) k46_78 fg46_63 rfl rfl ?_
      refine q_getR (pc := 81) k46_81 fg46_131 rfl rfl ?_
      refine q_iload_n (pc := 84) k46_84 rfl ?_
      refine q_ialdv (pc := 85) (v := M1 14 (Int32.toNatClampNeg a1)) k46_85 rfl h.1 rfl ?_
      replace h := h.2
      exact q_ireturn (pc := 86) k46_86 rfl ⟨_, rfl, h⟩
    have h := e999 ⟨g0, g1, g2⟩
    refine q_tsOut (pc := 21) 87 k46_21 (by have i0 := lv_neT g0 (a := 0) rfl; have i1 := lv_neT g1 (a := 1) rfl; have i2 := lv_neT g2 (a := 2) rfl; omega) (by decide) ?_
    refine q_aload_n (pc := 87) k46_87 rfl ?_
    refine q_bipush (pc := 88) (v := (-2)) k46_88 (by decide) ?_
    refine q_invV (pc := 90) (As := [.int (-2)]) (st := []) k46_90 lm46_100 ov72 rfl rfl rfl (q_cat rfl) (Nat.le_of_ble_eq_true rfl) hd h ?_
    rintro v M3 ⟨r4, rfl, h⟩
    show q_Ex X d 46 (90 + 3) [some (.ref 0), some (.int a1), some (.int a2)] [.int r4] M3 _
    exact q_ireturn (pc := 93) k46_93 rfl ⟨_, rfl, h⟩
  · replace h := h.2 g
    refine q_aload_n (pc := 14) k46_14 rfl ?_
    refine q_iconst (pc := 15) (v := (-1)) k46_15 (by decide) ?_
    refine q_invV (pc := 16) (As := [.int (-1)]) (st := []) k46_16 lm46_100 ov72 rfl rfl rfl (q_cat rfl) (Nat.le_of_ble_eq_true rfl) hd h ?_
    rintro v M5 ⟨r6, rfl, h⟩
    show q_Ex X d 46 (16 + 3) [some (.ref 0), some (.int a1), some (.int a2)] [.int r6] M5 _
    exact q_ireturn (pc := 19) k46_19 rfl ⟨_, rfl, h⟩
set_option maxRecDepth 20000 in
theorem vc47 {X : Nat × (Nat → Int32)} {d : Nat} (hd : 0 < d) {M : q_M} {a1 : Int32} {K : Int32 → q_M → Prop} (h : ((a1 < 0) → (q_Ci X (d - 1) 72 [.ref 0, .int (-2)] M (fun r2 M1 => K r2 M1))) ∧ ((¬ a1 < 0) → (((a1 < 5) → (K (M 10 2) (q_set (q_set M 10 2 a1) 0 16 (-1)))) ∧ ((¬ a1 < 5) → (q_Ci X (d - 1) 72 [.ref 0, .int (-2)] M (fun r4 M3 => K r4 M3)))))) : q_Ci X d 47 [.ref 0, .int a1] M K := by
  show q_Ex X d 47 0 [some (.ref 0), some (.int a1), none] [] M (q_ri K)
  refine q_iload_n (pc := 0) k47_0 rfl ?_
  refine q_if_lt (pc := 1) 9 k47_1 (by decide) (fun g => ?_) (fun g => ?_)
  · replace h := h.1 g
    refine q_aload_n (pc := 9) k47_9 rfl ?_
    refine q_bipush (pc := 10) (v := (-2)) k47_10 (by decide) ?_
    refine q_invV (pc := 12) (As := [.int (-2)]) (st := []) k47_12 lm47_100 ov72 rfl rfl rfl (q_cat rfl) (Nat.le_of_ble_eq_true rfl) hd h ?_
    rintro v M1 ⟨r2, rfl, h⟩
    show q_Ex X d 47 (12 + 3) [some (.ref 0), some (.int a1), none] [.int r2] M1 _
    exact q_ireturn (pc := 15) k47_15 rfl ⟨_, rfl, h⟩
  · replace h := h.2 g
    refine q_iload_n (pc := 4) k47_4 rfl ?_
    refine q_iconst (pc := 5) (v := 5) k47_5 (by decide) ?_
    refine q_icmp_lt (pc := 6) 16 k47_6 (by decide) (fun g => ?_) (fun g => ?_)
    · replace h := h.1 g
      refine q_aload_n (pc := 16) k47_16 rfl ?_
      refine q_getR (pc := 17) k47_17 fg47_26 rfl rfl ?_
      refine q_getIv (pc := 20) (v := M 10 2) k47_20 fg47_134 rfl rfl rfl ?_
      refine q_istore_n (pc := 23) [some (.ref 0), some (.int a1), some (.int (M 10 2))] k47_23 rfl (by decide) rfl ?_
      refine q_aload_n (pc := 24) k47_24 rfl ?_
      refine q_getR (pc := 25) k47_25 fg47_26 rfl rfl ?_
      refine q_iload_n (pc := 28) k47_28 rfl ?_
      refine q_putI (pc := 29) k47_29 fp47_134 rfl rfl ?_
      refine q_aload_n (pc := 32) k47_32 rfl ?_
      refine q_iconst (pc := 33) (v := (-1)) k47_33 (by decide) ?_
      refine q_putI (pc := 34) k47_34 fp47_58 rfl rfl ?_
      refine q_iload_n (pc := 37) k47_37 rfl ?_
      exact q_ireturn (pc := 38) k47_38 rfl ⟨_, rfl, h⟩
    · replace h := h.2 g
      refine q_aload_n (pc := 9) k47_9 rfl ?_
      refine q_bipush (pc := 10) (v := (-2)) k47_10 (by decide) ?_
      refine q_invV (pc := 12) (As := [.int (-2)]) (st := []) k47_12 lm47_100 ov72 rfl rfl rfl (q_cat rfl) (Nat.le_of_ble_eq_true rfl) hd h ?_
      rintro v M3 ⟨r4, rfl, h⟩
      show q_Ex X d 47 (12 + 3) [some (.ref 0), some (.int a1), none] [.int r4] M3 _
      exact q_ireturn (pc := 15) k47_15 rfl ⟨_, rfl, h⟩
set_option maxRecDepth 20000 in
theorem vc48 {X : Nat × (Nat → Int32)} {d : Nat} (hd : 0 < d) {M : q_M} {a1 : Int32} {K : Int32 → q_M → Prop} (h : q_Ci X (d - 1) 73 [.ref 0] M (fun r2 M1 => ((¬ r2 = 0) → (q_Ci X (d - 1) 87 [.int a1, .int (M1 11 4)] M1 (fun r4 M3 => ((0 ≤ r4) → (K (M3 10 3) (q_set (q_set M3 10 3 a1) 0 16 (-1)))) ∧ ((¬ 0 ≤ r4) → (q_Ci X (d - 1) 72 [.ref 0, .int (-1)] M3 (fun r6 M5 => K r6 M5)))))) ∧ ((r2 = 0) → (q_Ci X (d - 1) 72 [.ref 0, .int (-3)] M1 (fun r8 M7 => K r8 M7))))) : q_Ci X d 48 [.ref 0, .int a1] M K := by
  show q_Ex X d 48 0 [some (.ref 0), some (.int a1), none] [] M (q_ri K)
  refine q_aload_n (pc := 0) k48_0 rfl ?_
  refine q_invV (pc := 1) (As := []) (st := []) k48_1 lm48_137 ov73 rfl rfl rfl (q_cat rfl) (Nat.le_of_ble_eq_true rfl) hd h ?_
  rintro v M1 ⟨r2, rfl, h⟩
  show q_Ex X d 48 (1 + 3) [some (.ref 0), some (.int a1), none] [.int r2] M1 _
  refine q_if_ne (pc := 4) 14 k48_4 (by decide) (fun g => ?_) (fun g => ?_)
  · replace h := h.1 g
    refine q_iload_n (pc := 14) k48_14 rfl ?_
    refine q_aload_n (pc := 15) k48_15 rfl ?_
    refine q_getR (pc := 16) k48_16 fg48_26 rfl rfl ?_
    refine q_getR (pc := 19) k48_19 fg48_63 rfl rfl ?_
    refine q_getIv (pc := 22) (v := M1 11 4) k48_22 fg48_141 rfl rfl rfl ?_
    refine q_invS (pc := 25) (As := [.int a1, .int (M1 11 4)]) (st := []) k48_25 lm48_144 os87 rfl rfl (q_cat rfl) (Nat.le_of_ble_eq_true rfl) hd h ?_
    rintro v M3 ⟨r4, rfl, h⟩
    show q_Ex X d 48 (25 + 3) [some (.ref 0), some (.int a1), none] [.int r4] M3 _
    refine q_if_ge (pc := 28) 37 k48_28 (by decide) (fun g => ?_) (fun g => ?_)
    · replace h := h.1 g
      refine q_aload_n (pc := 37) k48_37 rfl ?_
      refine q_getR (pc := 38) k48_38 fg48_26 rfl rfl ?_
      refine q_getIv (pc := 41) (v := M3 10 3) k48_41 fg48_148 rfl rfl rfl ?_
      refine q_istore_n (pc := 44) [some (.ref 0), some (.int a1), some (.int (M3 10 3))] k48_44 rfl (by decide) rfl ?_
      refine q_aload_n (pc := 45) k48_45 rfl ?_
      refine q_getR (pc := 46) k48_46 fg48_26 rfl rfl ?_
      refine q_iload_n (pc := 49) k48_49 rfl ?_
      refine q_putI (pc := 50) k48_50 fp48_148 rfl rfl ?_
      refine q_aload_n (pc := 53) k48_53 rfl ?_
      refine q_iconst (pc := 54) (v := (-1)) k48_54 (by decide) ?_
      refine q_putI (pc := 55) k48_55 fp48_58 rfl rfl ?_
      refine q_iload_n (pc := 58) k48_58 rfl ?_
      exact q_ireturn (pc := 59) k48_59 rfl ⟨_, rfl, h⟩
    · replace h := h.2 g
      refine q_aload_n (pc := 31) k48_31 rfl ?_
      refine q_iconst (pc := 32) (v := (-1)) k48_32 (by decide) ?_
      refine q_invV (pc := 33) (As := [.int (-1)]) (st := []) k48_33 lm48_100 ov72 rfl rfl rfl (q_cat rfl) (Nat.le_of_ble_eq_true rfl) hd h ?_
      rintro v M5 ⟨r6, rfl, h⟩
      show q_Ex X d 48 (33 + 3) [some (.ref 0), some (.int a1), none] [.int r6] M5 _
      exact q_ireturn (pc := 36) k48_36 rfl ⟨_, rfl, h⟩
  · replace h := h.2 g
    refine q_aload_n (pc := 7) k48_7 rfl ?_
    refine q_bipush (pc := 8) (v := (-3)) k48_8 (by decide) ?_
    refine q_invV (pc := 10) (As := [.int (-3)]) (st := []) k48_10 lm48_100 ov72 rfl rfl rfl (q_cat rfl) (Nat.le_of_ble_eq_true rfl) hd h ?_
    rintro v M7 ⟨r8, rfl, h⟩
    show q_Ex X d 48 (10 + 3) [some (.ref 0), some (.int a1), none] [.int r8] M7 _
    exact q_ireturn (pc := 13) k48_13 rfl ⟨_, rfl, h⟩
set_option maxRecDepth 20000 in
theorem vc49 {X : Nat × (Nat → Int32)} {d : Nat} (hd : 0 < d) {M : q_M} {a1 a2 : Int32} {K : Int32 → q_M → Prop} (h : q_Ci X (d - 1) 24 [.ref 11, .int a1] M (fun r2 M1 => ((r2 = 0) → (q_Ci X (d - 1) 72 [.ref 0, .int (-1)] M1 (fun r4 M3 => K r4 M3))) ∧ ((¬ r2 = 0) → (q_Ci X (d - 1) 24 [.ref 11, .int a2] M1 (fun r6 M5 => ((¬ r6 = 0) → (q_Ci X (d - 1) 28 [.ref 11, .int a1, .int a2] M5 (fun r8 M7 => K r8 M7))) ∧ ((r6 = 0) → (q_Ci X (d - 1) 72 [.ref 0, .int (-1)] M5 (fun r10 M9 => K r10 M9)))))))) : q_Ci X d 49 [.ref 0, .int a1, .int a2] M K := by
  show q_Ex X d 49 0 [some (.ref 0), some (.int a1), some (.int a2)] [] M (q_ri K)
  refine q_aload_n (pc := 0) k49_0 rfl ?_
  refine q_getR (pc := 1) k49_1 fg49_26 rfl rfl ?_
  refine q_getR (pc := 4) k49_4 fg49_63 rfl rfl ?_
  refine q_iload_n (pc := 7) k49_7 rfl ?_
  refine q_invV (pc := 8) (As := [.int a1]) (st := []) k49_8 lm49_151 ov24 rfl rfl rfl (q_cat rfl) (Nat.le_of_ble_eq_true rfl) hd h ?_
  rintro v M1 ⟨r2, rfl, h⟩
  show q_Ex X d 49 (8 + 3) [some (.ref 0), some (.int a1), some (.int a2)] [.int r2] M1 _
  refine q_if_eq (pc := 11) 28 k49_11 (by decide) (fun g => ?_) (fun g => ?_)
  · replace h := h.1 g
    refine q_aload_n (pc := 28) k49_28 rfl ?_
    refine q_iconst (pc := 29) (v := (-1)) k49_29 (by decide) ?_
    refine q_invV (pc := 30) (As := [.int (-1)]) (st := []) k49_30 lm49_100 ov72 rfl rfl rfl (q_cat rfl) (Nat.le_of_ble_eq_true rfl) hd h ?_
    rintro v M3 ⟨r4, rfl, h⟩
    show q_Ex X d 49 (30 + 3) [some (.ref 0), some (.int a1), some (.int a2)] [.int r4] M3 _
    exact q_ireturn (pc := 33) k49_33 rfl ⟨_, rfl, h⟩
  · replace h := h.2 g
    refine q_aload_n (pc := 14) k49_14 rfl ?_
    refine q_getR (pc := 15) k49_15 fg49_26 rfl rfl ?_
    refine q_getR (pc := 18) k49_18 fg49_63 rfl rfl ?_
    refine q_iload_n (pc := 21) k49_21 rfl ?_
    refine q_invV (pc := 22) (As := [.int a2]) (st := []) k49_22 lm49_151 ov24 rfl rfl rfl (q_cat rfl) (Nat.le_of_ble_eq_true rfl) hd h ?_
    rintro v M5 ⟨r6, rfl, h⟩
    show q_Ex X d 49 (22 + 3) [some (.ref 0), some (.int a1), some (.int a2)] [.int r6] M5 _
    refine q_if_ne (pc := 25) 34 k49_25 (by decide) (fun g => ?_) (fun g => ?_)
    · replace h := h.1 g
      refine q_aload_n (pc := 34) k49_34 rfl ?_
      refine q_getR (pc := 35) k49_35 fg49_26 rfl rfl ?_
      refine q_getR (pc := 38) k49_38 fg49_63 rfl rfl ?_
      refine q_iload_n (pc := 41) k49_41 rfl ?_
      refine q_iload_n (pc := 42) k49_42 rfl ?_
      refine q_invV (pc := 43) (As := [.int a1, .int a2]) (st := []) k49_43 lm49_154 ov28 rfl rfl rfl (q_cat rfl) (Nat.le_of_ble_eq_true rfl) hd h ?_
      rintro v M7 ⟨r8, rfl, h⟩
      show q_Ex X d 49 (43 + 3) [some (.ref 0), some (.int a1), some (.int a2)] [.int r8] M7 _
      exact q_ireturn (pc := 46) k49_46 rfl ⟨_, rfl, h⟩
    · replace h := h.2 g
      refine q_aload_n (pc := 28) k49_28 rfl ?_
      refine q_iconst (pc := 29) (v := (-1)) k49_29 (by decide) ?_
      refine q_invV (pc := 30) (As := [.int (-1)]) (st := []) k49_30 lm49_100 ov72 rfl rfl rfl (q_cat rfl) (Nat.le_of_ble_eq_true rfl) hd h ?_
      rintro v M9 ⟨r10, rfl, h⟩
      show q_Ex X d 49 (30 + 3) [some (.ref 0), some (.int a1), some (.int a2)] [.int r10] M9 _
      exact q_ireturn (pc := 33) k49_33 rfl ⟨_, rfl, h⟩
set_option maxRecDepth 20000 in
theorem vc50 {X : Nat × (Nat → Int32)} {d : Nat} (hd : 0 < d) {M : q_M} {K : Int32 → q_M → Prop} (h : q_Ci X (d - 1) 73 [.ref 0] M (fun r2 M1 => ((¬ r2 = 0) → (q_Ci X (d - 1) 77 [.ref 0] M1 (fun r4 M3 => K r4 M3))) ∧ ((r2 = 0) → (q_Ci X (d - 1) 72 [.ref 0, .int (-3)] M1 (fun r6 M5 => K r6 M5))))) : q_Ci X d 50 [.ref 0] M K := by
  show q_Ex X d 50 0 [some (.ref 0)] [] M (q_ri K)
  refine q_aload_n (pc := 0) k50_0 rfl ?_
  refine q_invV (pc := 1) (As := []) (st := []) k50_1 lm50_137 ov73 rfl rfl rfl (q_cat rfl) (Nat.le_of_ble_eq_true rfl) hd h ?_
  rintro v M1 ⟨r2, rfl, h⟩
  show q_Ex X d 50 (1 + 3) [some (.ref 0)] [.int r2] M1 _
  refine q_if_ne (pc := 4) 14 k50_4 (by decide) (fun g => ?_) (fun g => ?_)
  · replace h := h.1 g
    refine q_aload_n (pc := 14) k50_14 rfl ?_
    refine q_invV (pc := 15) (As := []) (st := []) k50_15 lm50_157 ov77 rfl rfl rfl (q_cat rfl) (Nat.le_of_ble_eq_true rfl) hd h ?_
    rintro v M3 ⟨r4, rfl, h⟩
    show q_Ex X d 50 (15 + 3) [some (.ref 0)] [.int r4] M3 _
    exact q_ireturn (pc := 18) k50_18 rfl ⟨_, rfl, h⟩
  · replace h := h.2 g
    refine q_aload_n (pc := 7) k50_7 rfl ?_
    refine q_bipush (pc := 8) (v := (-3)) k50_8 (by decide) ?_
    refine q_invV (pc := 10) (As := [.int (-3)]) (st := []) k50_10 lm50_100 ov72 rfl rfl rfl (q_cat rfl) (Nat.le_of_ble_eq_true rfl) hd h ?_
    rintro v M5 ⟨r6, rfl, h⟩
    show q_Ex X d 50 (10 + 3) [some (.ref 0)] [.int r6] M5 _
    exact q_ireturn (pc := 13) k50_13 rfl ⟨_, rfl, h⟩
set_option maxRecDepth 20000 in
theorem vc51 {X : Nat × (Nat → Int32)} {d : Nat} (hd : 0 < d) {M : q_M} {K : Int32 → q_M → Prop} (h : q_Ci X (d - 1) 73 [.ref 0] M (fun r2 M1 => ((¬ r2 = 0) → (q_Ci X (d - 1) 79 [.ref 0, .int 0, .int 0] M1 (fun r4 M3 => K r4 M3))) ∧ ((r2 = 0) → (q_Ci X (d - 1) 72 [.ref 0, .int (-3)] M1 (fun r6 M5 => K (1000000000 - r6) M5))))) : q_Ci X d 51 [.ref 0] M K := by
  show q_Ex X d 51 0 [some (.ref 0)] [] M (q_ri K)
  refine q_aload_n (pc := 0) k51_0 rfl ?_
  refine q_invV (pc := 1) (As := []) (st := []) k51_1 lm51_137 ov73 rfl rfl rfl (q_cat rfl) (Nat.le_of_ble_eq_true rfl) hd h ?_
  rintro v M1 ⟨r2, rfl, h⟩
  show q_Ex X d 51 (1 + 3) [some (.ref 0)] [.int r2] M1 _
  refine q_if_ne (pc := 4) 17 k51_4 (by decide) (fun g => ?_) (fun g => ?_)
  · replace h := h.1 g
    refine q_aload_n (pc := 17) k51_17 rfl ?_
    refine q_iconst (pc := 18) (v := 0) k51_18 (by decide) ?_
    refine q_iconst (pc := 19) (v := 0) k51_19 (by decide) ?_
    refine q_invV (pc := 20) (As := [.int 0, .int 0]) (st := []) k51_20 lm51_162 ov79 rfl rfl rfl (q_cat rfl) (Nat.le_of_ble_eq_true rfl) hd h ?_
    rintro v M3 ⟨r4, rfl, h⟩
    show q_Ex X d 51 (20 + 3) [some (.ref 0)] [.int r4] M3 _
    exact q_ireturn (pc := 23) k51_23 rfl ⟨_, rfl, h⟩
  · replace h := h.2 g
    refine q_ldc (pc := 7) (v := 1000000000) k51_7 ld51_161 ?_
    refine q_aload_n (pc := 9) k51_9 rfl ?_
    refine q_bipush (pc := 10) (v := (-3)) k51_10 (by decide) ?_
    refine q_invV (pc := 12) (As := [.int (-3)]) (st := [.int 1000000000]) k51_12 lm51_100 ov72 rfl rfl rfl (q_cat rfl) (Nat.le_of_ble_eq_true rfl) hd h ?_
    rintro v M5 ⟨r6, rfl, h⟩
    show q_Ex X d 51 (12 + 3) [some (.ref 0)] [.int r6, .int 1000000000] M5 _
    refine q_isub (pc := 15) k51_15 ?_
    exact q_ireturn (pc := 16) k51_16 rfl ⟨_, rfl, h⟩
set_option maxRecDepth 20000 in
theorem vc52 {X : Nat × (Nat → Int32)} {d : Nat} (hd : 0 < d) {M : q_M} {K : Int32 → q_M → Prop} (h : q_Ci X (d - 1) 73 [.ref 0] M (fun r2 M1 => ((¬ r2 = 0) → (q_Ci X (d - 1) 85 [.int (M1 11 4)] M1 (fun r4 M3 => q_Ex X d 52 34 [some (.ref 0), some (.int (M1 11 4)), some (.int 0), some (.int (r4 + 1))] [] M3 (q_ri K)))) ∧ ((r2 = 0) → (q_Ci X (d - 1) 72 [.ref 0, .int (-3)] M1 (fun r6 M5 => K r6 M5))))) : q_Ci X d 52 [.ref 0] M K := by
  show q_Ex X d 52 0 [some (.ref 0), none, none, none] [] M (q_ri K)
  refine q_aload_n (pc := 0) k52_0 rfl ?_
  refine q_invV (pc := 1) (As := []) (st := []) k52_1 lm52_137 ov73 rfl rfl rfl (q_cat rfl) (Nat.le_of_ble_eq_true rfl) hd h ?_
  rintro v M1 ⟨r2, rfl, h⟩
  show q_Ex X d 52 (1 + 3) [some (.ref 0), none, none, none] [.int r2] M1 _
  refine q_if_ne (pc := 4) 14 k52_4 (by decide) (fun g => ?_) (fun g => ?_)
  · replace h := h.1 g
    refine q_aload_n (pc := 14) k52_14 rfl ?_
    refine q_getR (pc := 15) k52_15 fg52_26 rfl rfl ?_
    refine q_getR (pc := 18) k52_18 fg52_63 rfl rfl ?_
    refine q_getIv (pc := 21) (v := M1 11 4) k52_21 fg52_141 rfl rfl rfl ?_
    refine q_istore_n (pc := 24) [some (.ref 0), some (.int (M1 11 4)), none, none] k52_24 rfl (by decide) rfl ?_
    refine q_iconst (pc := 25) (v := 0) k52_25 (by decide) ?_
    refine q_istore_n (pc := 26) [some (.ref 0), some (.int (M1 11 4)), some (.int 0), none] k52_26 rfl (by decide) rfl ?_
    refine q_iload_n (pc := 27) k52_27 rfl ?_
    refine q_invS (pc := 28) (As := [.int (M1 11 4)]) (st := []) k52_28 lm52_165 os85 rfl rfl (q_cat rfl) (Nat.le_of_ble_eq_true rfl) hd h ?_
    rintro v M3 ⟨r4, rfl, h⟩
    show q_Ex X d 52 (28 + 3) [some (.ref 0), some (.int (M1 11 4)), some (.int 0), none] [.int r4] M3 _
    refine q_iconst (pc := 31) (v := 1) k52_31 (by decide) ?_
    refine q_iadd (pc := 32) k52_32 ?_
    refine q_istore_n (pc := 33) [some (.ref 0), some (.int (M1 11 4)), some (.int 0), some (.int (r4 + 1))] k52_33 rfl (by decide) rfl ?_
    exact h
  · replace h := h.2 g
    refine q_aload_n (pc := 7) k52_7 rfl ?_
    refine q_bipush (pc := 8) (v := (-3)) k52_8 (by decide) ?_
    refine q_invV (pc := 10) (As := [.int (-3)]) (st := []) k52_10 lm52_100 ov72 rfl rfl rfl (q_cat rfl) (Nat.le_of_ble_eq_true rfl) hd h ?_
    rintro v M5 ⟨r6, rfl, h⟩
    show q_Ex X d 52 (10 + 3) [some (.ref 0), none, none, none] [.int r6] M5 _
    exact q_ireturn (pc := 13) k52_13 rfl ⟨_, rfl, h⟩
set_option maxRecDepth 20000 in
theorem vc52_p34 {X : Nat × (Nat → Int32)} {d : Nat} (hd : 0 < d) {M : q_M} {a1 a2 a3 : Int32} {K : Int32 → q_M → Prop} (h : q_Ci X (d - 1) 86 [.int a1] M (fun r2 M1 => ((r2 ≤ a3) → (q_Cr X (d - 1) 74 [.ref 0] M1 (fun r4 M3 => r4 = 64 ∧ (q_Ci X (d - 1) 35 [.ref 64, .int a2] M3 (fun r6 M5 => ((¬ r6 = 0) → (K 0 M5)) ∧ ((r6 = 0) → (K 1 M5))))))) ∧ ((¬ r2 ≤ a3) → (q_Ex X d 52 34 [some (.ref 0), some (.int a1), some (.int (a2 ||| (1 <<< (a3 &&& 31)))), some (.int (a3 + 1))] [] M1 (q_ri K))))) : q_Ex X d 52 34 [some (.ref 0), some (.int a1), some (.int a2), some (.int a3)] [] M (q_ri K) := by
  refine q_iload_n (pc := 34) k52_34 rfl ?_
  refine q_iload_n (pc := 35) k52_35 rfl ?_
  refine q_invS (pc := 36) (As := [.int a1]) (st := [.int a3]) k52_36 lm52_168 os86 rfl rfl (q_cat rfl) (Nat.le_of_ble_eq_true rfl) hd h ?_
  rintro v M1 ⟨r2, rfl, h⟩
  show q_Ex X d 52 (36 + 3) [some (.ref 0), some (.int a1), some (.int a2), some (.int a3)] [.int r2, .int a3] M1 _
  refine q_icmp_ge (pc := 39) 54 k52_39 (by decide) (fun g => ?_) (fun g => ?_)
  · replace h := h.1 g
    refine q_aload_n (pc := 54) k52_54 rfl ?_
    refine q_invV (pc := 55) (As := []) (st := []) k52_55 lm52_171 ov74 rfl rfl rfl (q_cat rfl) (Nat.le_of_ble_eq_true rfl) hd h ?_
    rintro v M3 ⟨r4, rfl, rfl, h⟩
    show q_Ex X d 52 (55 + 3) [some (.ref 0), some (.int a1), some (.int a2), some (.int a3)] [.ref 64] M3 _
    refine q_iload_n (pc := 58) k52_58 rfl ?_
    refine q_invV (pc := 59) (As := [.int a2]) (st := []) k52_59 lm52_175 ov35 rfl rfl rfl (q_cat rfl) (Nat.le_of_ble_eq_true rfl) hd h ?_
    rintro v M5 ⟨r6, rfl, h⟩
    show q_Ex X d 52 (59 + 3) [some (.ref 0), some (.int a1), some (.int a2), some (.int a3)] [.int r6] M5 _
    refine q_if_ne (pc := 62) 69 k52_62 (by decide) (fun g => ?_) (fun g => ?_)
    · replace h := h.1 g
      refine q_iconst (pc := 69) (v := 0) k52_69 (by decide) ?_
      exact q_ireturn (pc := 70) k52_70 rfl ⟨_, rfl, h⟩
    · replace h := h.2 g
      refine q_iconst (pc := 65) (v := 1) k52_65 (by decide) ?_
      refine q_goto (pc := 66) 70 k52_66 (by decide) ?_
      exact q_ireturn (pc := 70) k52_70 rfl ⟨_, rfl, h⟩
  · replace h := h.2 g
    refine q_iload_n (pc := 42) k52_42 rfl ?_
    refine q_iconst (pc := 43) (v := 1) k52_43 (by decide) ?_
    refine q_iload_n (pc := 44) k52_44 rfl ?_
    refine q_ishl (pc := 45) k52_45 ?_
    refine q_ior (pc := 46) k52_46 ?_
    refine q_istore_n (pc := 47) [some (.ref 0), some (.int a1), some (.int (a2 ||| (1 <<< (a3 &&& 31)))), some (.int a3)] k52_47 rfl (by decide) rfl ?_
    refine q_iinc (pc := 48) (v := a3 + 1) [some (.ref 0), some (.int a1), some (.int (a2 ||| (1 <<< (a3 &&& 31)))), some (.int (a3 + 1))] k52_48 rfl rfl rfl (by decide) rfl ?_
    refine q_goto (pc := 51) 34 k52_51 (by decide) ?_
    exact h
set_option maxRecDepth 20000 in
theorem vc53 {X : Nat × (Nat → Int32)} {d : Nat} (hd : 0 < d) {M : q_M} {a1 : Int32} {K : Int32 → q_M → Prop} (h : q_Ci X (d - 1) 73 [.ref 0] M (fun r2 M1 => ((¬ r2 = 0) → (q_Ci X (d - 1) 87 [.int a1, .int (M1 11 4)] M1 (fun r4 M3 => ((0 ≤ r4) → (q_Cr X (d - 1) 74 [.ref 0] M3 (fun r6 M5 => r6 = 64 ∧ (q_Ci X (d - 1) 35 [.ref 64, .int (1 <<< (r4 &&& 31))] M5 (fun r8 M7 => K r8 M7))))) ∧ ((¬ 0 ≤ r4) → (q_Ci X (d - 1) 72 [.ref 0, .int (-1)] M3 (fun r10 M9 => K r10 M9)))))) ∧ ((r2 = 0) → (q_Ci X (d - 1) 72 [.ref 0, .int (-3)] M1 (fun r12 M11 => K r12 M11))))) : q_Ci X d 53 [.ref 0, .int a1] M K := by
  show q_Ex X d 53 0 [some (.ref 0), some (.int a1), none] [] M (q_ri K)
  refine q_aload_n (pc := 0) k53_0 rfl ?_
  refine q_invV (pc := 1) (As := []) (st := []) k53_1 lm53_137 ov73 rfl rfl rfl (q_cat rfl) (Nat.le_of_ble_eq_true rfl) hd h ?_
  rintro v M1 ⟨r2, rfl, h⟩
  show q_Ex X d 53 (1 + 3) [some (.ref 0), some (.int a1), none] [.int r2] M1 _
  refine q_if_ne (pc := 4) 14 k53_4 (by decide) (fun g => ?_) (fun g => ?_)
  · replace h := h.1 g
    refine q_iload_n (pc := 14) k53_14 rfl ?_
    refine q_aload_n (pc := 15) k53_15 rfl ?_
    refine q_getR (pc := 16) k53_16 fg53_26 rfl rfl ?_
    refine q_getR (pc := 19) k53_19 fg53_63 rfl rfl ?_
    refine q_getIv (pc := 22) (v := M1 11 4) k53_22 fg53_141 rfl rfl rfl ?_
    refine q_invS (pc := 25) (As := [.int a1, .int (M1 11 4)]) (st := []) k53_25 lm53_144 os87 rfl rfl (q_cat rfl) (Nat.le_of_ble_eq_true rfl) hd h ?_
    rintro v M3 ⟨r4, rfl, h⟩
    show q_Ex X d 53 (25 + 3) [some (.ref 0), some (.int a1), none] [.int r4] M3 _
    refine q_istore_n (pc := 28) [some (.ref 0), some (.int a1), some (.int r4)] k53_28 rfl (by decide) rfl ?_
    refine q_iload_n (pc := 29) k53_29 rfl ?_
    refine q_if_ge (pc := 30) 39 k53_30 (by decide) (fun g => ?_) (fun g => ?_)
    · replace h := h.1 g
      refine q_aload_n (pc := 39) k53_39 rfl ?_
      refine q_invV (pc := 40) (As := []) (st := []) k53_40 lm53_171 ov74 rfl rfl rfl (q_cat rfl) (Nat.le_of_ble_eq_true rfl) hd h ?_
      rintro v M5 ⟨r6, rfl, rfl, h⟩
      show q_Ex X d 53 (40 + 3) [some (.ref 0), some (.int a1), some (.int r4)] [.ref 64] M5 _
      refine q_iconst (pc := 43) (v := 1) k53_43 (by decide) ?_
      refine q_iload_n (pc := 44) k53_44 rfl ?_
      refine q_ishl (pc := 45) k53_45 ?_
      refine q_invV (pc := 46) (As := [.int (1 <<< (r4 &&& 31))]) (st := []) k53_46 lm53_175 ov35 rfl rfl rfl (q_cat rfl) (Nat.le_of_ble_eq_true rfl) hd h ?_
      rintro v M7 ⟨r8, rfl, h⟩
      show q_Ex X d 53 (46 + 3) [some (.ref 0), some (.int a1), some (.int r4)] [.int r8] M7 _
      exact q_ireturn (pc := 49) k53_49 rfl ⟨_, rfl, h⟩
    · replace h := h.2 g
      refine q_aload_n (pc := 33) k53_33 rfl ?_
      refine q_iconst (pc := 34) (v := (-1)) k53_34 (by decide) ?_
      refine q_invV (pc := 35) (As := [.int (-1)]) (st := []) k53_35 lm53_100 ov72 rfl rfl rfl (q_cat rfl) (Nat.le_of_ble_eq_true rfl) hd h ?_
      rintro v M9 ⟨r10, rfl, h⟩
      show q_Ex X d 53 (35 + 3) [some (.ref 0), some (.int a1), some (.int r4)] [.int r10] M9 _
      exact q_ireturn (pc := 38) k53_38 rfl ⟨_, rfl, h⟩
  · replace h := h.2 g
    refine q_aload_n (pc := 7) k53_7 rfl ?_
    refine q_bipush (pc := 8) (v := (-3)) k53_8 (by decide) ?_
    refine q_invV (pc := 10) (As := [.int (-3)]) (st := []) k53_10 lm53_100 ov72 rfl rfl rfl (q_cat rfl) (Nat.le_of_ble_eq_true rfl) hd h ?_
    rintro v M11 ⟨r12, rfl, h⟩
    show q_Ex X d 53 (10 + 3) [some (.ref 0), some (.int a1), none] [.int r12] M11 _
    exact q_ireturn (pc := 13) k53_13 rfl ⟨_, rfl, h⟩
set_option maxRecDepth 20000 in
theorem vc54 {X : Nat × (Nat → Int32)} {d : Nat} (hd : 0 < d) {M : q_M} {K : Int32 → q_M → Prop} (h : q_Ci X (d - 1) 73 [.ref 0] M (fun r2 M1 => ((¬ r2 = 0) → (q_Cr X (d - 1) 74 [.ref 0] M1 (fun r4 M3 => r4 = 64 ∧ (q_Ci X (d - 1) 76 [.ref 0] M3 (fun r6 M5 => q_Ci X (d - 1) 36 [.ref 64, .int r6] M5 (fun r8 M7 => K r8 M7)))))) ∧ ((r2 = 0) → (q_Ci X (d - 1) 72 [.ref 0, .int (-3)] M1 (fun r10 M9 => K r10 M9))))) : q_Ci X d 54 [.ref 0] M K := by
  show q_Ex X d 54 0 [some (.ref 0)] [] M (q_ri K)
  refine q_aload_n (pc := 0) k54_0 rfl ?_
  refine q_invV (pc := 1) (As := []) (st := []) k54_1 lm54_137 ov73 rfl rfl rfl (q_cat rfl) (Nat.le_of_ble_eq_true rfl) hd h ?_
  rintro v M1 ⟨r2, rfl, h⟩
  show q_Ex X d 54 (1 + 3) [some (.ref 0)] [.int r2] M1 _
  refine q_if_ne (pc := 4) 14 k54_4 (by decide) (fun g => ?_) (fun g => ?_)
  · replace h := h.1 g
    refine q_aload_n (pc := 14) k54_14 rfl ?_
    refine q_invV (pc := 15) (As := []) (st := []) k54_15 lm54_171 ov74 rfl rfl rfl (q_cat rfl) (Nat.le_of_ble_eq_true rfl) hd h ?_
    rintro v M3 ⟨r4, rfl, rfl, h⟩
    show q_Ex X d 54 (15 + 3) [some (.ref 0)] [.ref 64] M3 _
    refine q_aload_n (pc := 18) k54_18 rfl ?_
    refine q_invV (pc := 19) (As := []) (st := [.ref 64]) k54_19 lm54_178 ov76 rfl rfl rfl (q_cat rfl) (Nat.le_of_ble_eq_true rfl) hd h ?_
    rintro v M5 ⟨r6, rfl, h⟩
    show q_Ex X d 54 (19 + 3) [some (.ref 0)] [.int r6, .ref 64] M5 _
    refine q_invV (pc := 22) (As := [.int r6]) (st := []) k54_22 lm54_181 ov36 rfl rfl rfl (q_cat rfl) (Nat.le_of_ble_eq_true rfl) hd h ?_
    rintro v M7 ⟨r8, rfl, h⟩
    show q_Ex X d 54 (22 + 3) [some (.ref 0)] [.int r8] M7 _
    exact q_ireturn (pc := 25) k54_25 rfl ⟨_, rfl, h⟩
  · replace h := h.2 g
    refine q_aload_n (pc := 7) k54_7 rfl ?_
    refine q_bipush (pc := 8) (v := (-3)) k54_8 (by decide) ?_
    refine q_invV (pc := 10) (As := [.int (-3)]) (st := []) k54_10 lm54_100 ov72 rfl rfl rfl (q_cat rfl) (Nat.le_of_ble_eq_true rfl) hd h ?_
    rintro v M9 ⟨r10, rfl, h⟩
    show q_Ex X d 54 (10 + 3) [some (.ref 0)] [.int r10] M9 _
    exact q_ireturn (pc := 13) k54_13 rfl ⟨_, rfl, h⟩
set_option maxRecDepth 20000 in
theorem vc55 {X : Nat × (Nat → Int32)} {d : Nat} (hd : 0 < d) {M : q_M} {a1 a2 : Int32} {K : Int32 → q_M → Prop} (h : q_Ci X (d - 1) 23 [.ref 11, .int a1] M (fun r2 M1 => ((¬ r2 = 0) → (((a2 < 0) → (q_Ci X (d - 1) 72 [.ref 0, .int (-2)] M1 (fun r4 M3 => K r4 M3))) ∧ ((¬ a2 < 0) → (((a2 ≤ 1) → (q_Ci X (d - 1) 78 [.ref 0, .int a1] M1 (fun r6 M5 => ((¬ r6 = 0) → (q_Ci X (d - 1) 77 [.ref 0] M5 (fun r8 M7 => q_Ci X (d - 1) 83 [.int r8, .int r6] M7 (fun r10 M9 => ((¬ a2 = 0) → (¬ r10 = 0 ∧ (K (r8 / r10) M9))) ∧ ((a2 = 0) → (¬ r10 = 0 ∧ (K (r6 / r10) M9))))))) ∧ ((r6 = 0) → (q_Ci X (d - 1) 83 [.int 1, .int r6] M5 (fun r12 M11 => ((¬ a2 = 0) → (¬ r12 = 0 ∧ (K (1 / r12) M11))) ∧ ((a2 = 0) → (¬ r12 = 0 ∧ (K (r6 / r12) M11))))))))) ∧ ((¬ a2 ≤ 1) → (q_Ci X (d - 1) 72 [.ref 0, .int (-2)] M1 (fun r14 M13 => K r14 M13))))))) ∧ ((r2 = 0) → (q_Ci X (d - 1) 72 [.ref 0, .int (-1)] M1 (fun r16 M15 => K r16 M15))))) : q_Ci X d 55 [.ref 0, .int a1, .int a2] M K := by
  show q_Ex X d 55 0 [some (.ref 0), some (.int a1), some (.int a2), none, none, none] [] M (q_ri K)
  refine q_aload_n (pc := 0) k55_0 rfl ?_
  refine q_getR (pc := 1) k55_1 fg55_26 rfl rfl ?_
  refine q_getR (pc := 4) k55_4 fg55_63 rfl rfl ?_
  refine q_iload_n (pc := 7) k55_7 rfl ?_
  refine q_invV (pc := 8) (As := [.int a1]) (st := []) k55_8 lm55_121 ov23 rfl rfl rfl (q_cat rfl) (Nat.le_of_ble_eq_true rfl) hd h ?_
  rintro v M1 ⟨r2, rfl, h⟩
  show q_Ex X d 55 (8 + 3) [some (.ref 0), some (.int a1), some (.int a2), none, none, none] [.int r2] M1 _
  refine q_if_ne (pc := 11) 20 k55_11 (by decide) (fun g => ?_) (fun g => ?_)
  · replace h := h.1 g
    refine q_iload_n (pc := 20) k55_20 rfl ?_
    refine q_if_lt (pc := 21) 29 k55_21 (by decide) (fun g => ?_) (fun g => ?_)
    · replace h := h.1 g
      refine q_aload_n (pc := 29) k55_29 rfl ?_
      refine q_bipush (pc := 30) (v := (-2)) k55_30 (by decide) ?_
      refine q_invV (pc := 32) (As := [.int (-2)]) (st := []) k55_32 lm55_100 ov72 rfl rfl rfl (q_cat rfl) (Nat.le_of_ble_eq_true rfl) hd h ?_
      rintro v M3 ⟨r4, rfl, h⟩
      show q_Ex X d 55 (32 + 3) [some (.ref 0), some (.int a1), some (.int a2), none, none, none] [.int r4] M3 _
      exact q_ireturn (pc := 35) k55_35 rfl ⟨_, rfl, h⟩
    · replace h := h.2 g
      refine q_iload_n (pc := 24) k55_24 rfl ?_
      refine q_iconst (pc := 25) (v := 1) k55_25 (by decide) ?_
      refine q_icmp_le (pc := 26) 36 k55_26 (by decide) (fun g => ?_) (fun g => ?_)
      · replace h := h.1 g
        refine q_aload_n (pc := 36) k55_36 rfl ?_
        refine q_iload_n (pc := 37) k55_37 rfl ?_
        refine q_invV (pc := 38) (As := [.int a1]) (st := []) k55_38 lm55_184 ov78 rfl rfl rfl (q_cat rfl) (Nat.le_of_ble_eq_true rfl) hd h ?_
        rintro v M5 ⟨r6, rfl, h⟩
        show q_Ex X d 55 (38 + 3) [some (.ref 0), some (.int a1), some (.int a2), none, none, none] [.int r6] M5 _
        refine q_istore_n (pc := 41) [some (.ref 0), some (.int a1), some (.int a2), some (.int r6), none, none] k55_41 rfl (by decide) rfl ?_
        refine q_iload_n (pc := 42) k55_42 rfl ?_
        refine q_if_ne (pc := 43) 50 k55_43 (by decide) (fun g => ?_) (fun g => ?_)
        · replace h := h.1 g
          refine q_aload_n (pc := 50) k55_50 rfl ?_
          refine q_invV (pc := 51) (As := []) (st := []) k55_51 lm55_157 ov77 rfl rfl rfl (q_cat rfl) (Nat.le_of_ble_eq_true rfl) hd h ?_
          rintro v M7 ⟨r8, rfl, h⟩
          show q_Ex X d 55 (51 + 3) [some (.ref 0), some (.int a1), some (.int a2), some (.int r6), none, none] [.int r8] M7 _
          refine q_istore (pc := 54) [some (.ref 0), some (.int a1), some (.int a2), some (.int r6), some (.int r8), none] k55_54 rfl (by decide) rfl ?_
          refine q_iload (pc := 56) k55_56 rfl ?_
          refine q_iload_n (pc := 58) k55_58 rfl ?_
          refine q_invS (pc := 59) (As := [.int r8, .int r6]) (st := []) k55_59 lm55_187 os83 rfl rfl (q_cat rfl) (Nat.le_of_ble_eq_true rfl) hd h ?_
          rintro v M9 ⟨r10, rfl, h⟩
          show q_Ex X d 55 (59 + 3) [some (.ref 0), some (.int a1), some (.int a2), some (.int r6), some (.int r8), none] [.int r10] M9 _
          refine q_istore (pc := 62) [some (.ref 0), some (.int a1), some (.int a2), some (.int r6), some (.int r8), some (.int r10)] k55_62 rfl (by decide) rfl ?_
          refine q_iload_n (pc := 64) k55_64 rfl ?_
          refine q_if_ne (pc := 65) 72 k55_65 (by decide) (fun g => ?_) (fun g => ?_)
          · replace h := h.1 g
            refine q_iload (pc := 72) k55_72 rfl ?_
            refine q_iload (pc := 74) k55_74 rfl ?_
            refine q_idiv (pc := 76) k55_76 h.1 ?_
            replace h := h.2
            exact q_ireturn (pc := 77) k55_77 rfl ⟨_, rfl, h⟩
          · replace h := h.2 g
            refine q_iload_n (pc := 68) k55_68 rfl ?_
            refine q_goto (pc := 69) 74 k55_69 (by decide) ?_
            refine q_iload (pc := 74) k55_74 rfl ?_
            refine q_idiv (pc := 76) k55_76 h.1 ?_
            replace h := h.2
            exact q_ireturn (pc := 77) k55_77 rfl ⟨_, rfl, h⟩
        · replace h := h.2 g
          refine q_iconst (pc := 46) (v := 1) k55_46 (by decide) ?_
          refine q_goto (pc := 47) 54 k55_47 (by decide) ?_
          refine q_istore (pc := 54) [some (.ref 0), some (.int a1), some (.int a2), some (.int r6), some (.int 1), none] k55_54 rfl (by decide) rfl ?_
          refine q_iload (pc := 56) k55_56 rfl ?_
          refine q_iload_n (pc := 58) k55_58 rfl ?_
          refine q_invS (pc := 59) (As := [.int 1, .int r6]) (st := []) k55_59 lm55_187 os83 rfl rfl (q_cat rfl) (Nat.le_of_ble_eq_true rfl) hd h ?_
          rintro v M11 ⟨r12, rfl, h⟩
          show q_Ex X d 55 (59 + 3) [some (.ref 0), some (.int a1), some (.int a2), some (.int r6), some (.int 1), none] [.int r12] M11 _
          refine q_istore (pc := 62) [some (.ref 0), some (.int a1), some (.int a2), some (.int r6), some (.int 1), some (.int r12)] k55_62 rfl (by decide) rfl ?_
          refine q_iload_n (pc := 64) k55_64 rfl ?_
          refine q_if_ne (pc := 65) 72 k55_65 (by decide) (fun g => ?_) (fun g => ?_)
          · replace h := h.1 g
            refine q_iload (pc := 72) k55_72 rfl ?_
            refine q_iload (pc := 74) k55_74 rfl ?_
            refine q_idiv (pc := 76) k55_76 h.1 ?_
            replace h := h.2
            exact q_ireturn (pc := 77) k55_77 rfl ⟨_, rfl, h⟩
          · replace h := h.2 g
            refine q_iload_n (pc := 68) k55_68 rfl ?_
            refine q_goto (pc := 69) 74 k55_69 (by decide) ?_
            refine q_iload (pc := 74) k55_74 rfl ?_
            refine q_idiv (pc := 76) k55_76 h.1 ?_
            replace h := h.2
            exact q_ireturn (pc := 77) k55_77 rfl ⟨_, rfl, h⟩
      · replace h := h.2 g
        refine q_aload_n (pc := 29) k55_29 rfl ?_
        refine q_bipush (pc := 30) (v := (-2)) k55_30 (by decide) ?_
        refine q_invV (pc := 32) (As := [.int (-2)]) (st := []) k55_32 lm55_100 ov72 rfl rfl rfl (q_cat rfl) (Nat.le_of_ble_eq_true rfl) hd h ?_
        rintro v M13 ⟨r14, rfl, h⟩
        show q_Ex X d 55 (32 + 3) [some (.ref 0), some (.int a1), some (.int a2), none, none, none] [.int r14] M13 _
        exact q_ireturn (pc := 35) k55_35 rfl ⟨_, rfl, h⟩
  · replace h := h.2 g
    refine q_aload_n (pc := 14) k55_14 rfl ?_
    refine q_iconst (pc := 15) (v := (-1)) k55_15 (by decide) ?_
    refine q_invV (pc := 16) (As := [.int (-1)]) (st := []) k55_16 lm55_100 ov72 rfl rfl rfl (q_cat rfl) (Nat.le_of_ble_eq_true rfl) hd h ?_
    rintro v M15 ⟨r16, rfl, h⟩
    show q_Ex X d 55 (16 + 3) [some (.ref 0), some (.int a1), some (.int a2), none, none, none] [.int r16] M15 _
    exact q_ireturn (pc := 19) k55_19 rfl ⟨_, rfl, h⟩
set_option maxRecDepth 20000 in
theorem vc56 {X : Nat × (Nat → Int32)} {d : Nat} (hd : 0 < d) {M : q_M} {a1 a2 a3 : Int32} {K : Int32 → q_M → Prop} (h : q_Ci X (d - 1) 24 [.ref 11, .int a2] M (fun r2 M1 => ((¬ r2 = 0) → (((a1 < 0) → (q_Ci X (d - 1) 72 [.ref 0, .int (-4)] M1 (fun r4 M3 => K r4 M3))) ∧ ((¬ a1 < 0) → (((0 ≤ a3) → (q_Ci X (d - 1) 80 [.ref 0, .int a1, .int a2, .int a3] M1 (fun r6 M5 => K r6 M5))) ∧ ((¬ 0 ≤ a3) → (q_Ci X (d - 1) 72 [.ref 0, .int (-4)] M1 (fun r8 M7 => K r8 M7))))))) ∧ ((r2 = 0) → (q_Ci X (d - 1) 72 [.ref 0, .int (-1)] M1 (fun r10 M9 => K r10 M9))))) : q_Ci X d 56 [.ref 0, .int a1, .int a2, .int a3] M K := by
  show q_Ex X d 56 0 [some (.ref 0), some (.int a1), some (.int a2), some (.int a3)] [] M (q_ri K)
  refine q_aload_n (pc := 0) k56_0 rfl ?_
  refine q_getR (pc := 1) k56_1 fg56_26 rfl rfl ?_
  refine q_getR (pc := 4) k56_4 fg56_63 rfl rfl ?_
  refine q_iload_n (pc := 7) k56_7 rfl ?_
  refine q_invV (pc := 8) (As := [.int a2]) (st := []) k56_8 lm56_151 ov24 rfl rfl rfl (q_cat rfl) (Nat.le_of_ble_eq_true rfl) hd h ?_
  rintro v M1 ⟨r2, rfl, h⟩
  show q_Ex X d 56 (8 + 3) [some (.ref 0), some (.int a1), some (.int a2), some (.int a3)] [.int r2] M1 _
  refine q_if_ne (pc := 11) 20 k56_11 (by decide) (fun g => ?_) (fun g => ?_)
  · replace h := h.1 g
    refine q_iload_n (pc := 20) k56_20 rfl ?_
    refine q_if_lt (pc := 21) 28 k56_21 (by decide) (fun g => ?_) (fun g => ?_)
    · replace h := h.1 g
      refine q_aload_n (pc := 28) k56_28 rfl ?_
      refine q_bipush (pc := 29) (v := (-4)) k56_29 (by decide) ?_
      refine q_invV (pc := 31) (As := [.int (-4)]) (st := []) k56_31 lm56_100 ov72 rfl rfl rfl (q_cat rfl) (Nat.le_of_ble_eq_true rfl) hd h ?_
      rintro v M3 ⟨r4, rfl, h⟩
      show q_Ex X d 56 (31 + 3) [some (.ref 0), some (.int a1), some (.int a2), some (.int a3)] [.int r4] M3 _
      exact q_ireturn (pc := 34) k56_34 rfl ⟨_, rfl, h⟩
    · replace h := h.2 g
      refine q_iload_n (pc := 24) k56_24 rfl ?_
      refine q_if_ge (pc := 25) 35 k56_25 (by decide) (fun g => ?_) (fun g => ?_)
      · replace h := h.1 g
        refine q_aload_n (pc := 35) k56_35 rfl ?_
        refine q_iload_n (pc := 36) k56_36 rfl ?_
        refine q_iload_n (pc := 37) k56_37 rfl ?_
        refine q_iload_n (pc := 38) k56_38 rfl ?_
        refine q_invV (pc := 39) (As := [.int a1, .int a2, .int a3]) (st := []) k56_39 lm56_190 ov80 rfl rfl rfl (q_cat rfl) (Nat.le_of_ble_eq_true rfl) hd h ?_
        rintro v M5 ⟨r6, rfl, h⟩
        show q_Ex X d 56 (39 + 3) [some (.ref 0), some (.int a1), some (.int a2), some (.int a3)] [.int r6] M5 _
        exact q_ireturn (pc := 42) k56_42 rfl ⟨_, rfl, h⟩
      · replace h := h.2 g
        refine q_aload_n (pc := 28) k56_28 rfl ?_
        refine q_bipush (pc := 29) (v := (-4)) k56_29 (by decide) ?_
        refine q_invV (pc := 31) (As := [.int (-4)]) (st := []) k56_31 lm56_100 ov72 rfl rfl rfl (q_cat rfl) (Nat.le_of_ble_eq_true rfl) hd h ?_
        rintro v M7 ⟨r8, rfl, h⟩
        show q_Ex X d 56 (31 + 3) [some (.ref 0), some (.int a1), some (.int a2), some (.int a3)] [.int r8] M7 _
        exact q_ireturn (pc := 34) k56_34 rfl ⟨_, rfl, h⟩
  · replace h := h.2 g
    refine q_aload_n (pc := 14) k56_14 rfl ?_
    refine q_iconst (pc := 15) (v := (-1)) k56_15 (by decide) ?_
    refine q_invV (pc := 16) (As := [.int (-1)]) (st := []) k56_16 lm56_100 ov72 rfl rfl rfl (q_cat rfl) (Nat.le_of_ble_eq_true rfl) hd h ?_
    rintro v M9 ⟨r10, rfl, h⟩
    show q_Ex X d 56 (16 + 3) [some (.ref 0), some (.int a1), some (.int a2), some (.int a3)] [.int r10] M9 _
    exact q_ireturn (pc := 19) k56_19 rfl ⟨_, rfl, h⟩
set_option maxRecDepth 20000 in
theorem vc57 {X : Nat × (Nat → Int32)} {d : Nat} (hd : 0 < d) {M : q_M} {a1 a2 a3 : Int32} {K : Int32 → q_M → Prop} (h : q_Ci X (d - 1) 24 [.ref 11, .int a2] M (fun r2 M1 => ((¬ r2 = 0) → (((0 ≤ a3) → (q_Ci X (d - 1) 77 [.ref 0] M1 (fun r4 M3 => ((1 ≤ r4) → (q_Ci X (d - 1) 82 [.int r4, .int a1] M3 (fun r6 M5 => q_Ci X (d - 1) 80 [.ref 0, .int r6, .int a2, .int a3] M5 (fun r8 M7 => K r8 M7)))) ∧ ((¬ 1 ≤ r4) → (K (-9) M3))))) ∧ ((¬ 0 ≤ a3) → (q_Ci X (d - 1) 72 [.ref 0, .int (-4)] M1 (fun r10 M9 => K r10 M9))))) ∧ ((r2 = 0) → (q_Ci X (d - 1) 72 [.ref 0, .int (-1)] M1 (fun r12 M11 => K r12 M11))))) : q_Ci X d 57 [.ref 0, .int a1, .int a2, .int a3] M K := by
  show q_Ex X d 57 0 [some (.ref 0), some (.int a1), some (.int a2), some (.int a3), none] [] M (q_ri K)
  refine q_aload_n (pc := 0) k57_0 rfl ?_
  refine q_getR (pc := 1) k57_1 fg57_26 rfl rfl ?_
  refine q_getR (pc := 4) k57_4 fg57_63 rfl rfl ?_
  refine q_iload_n (pc := 7) k57_7 rfl ?_
  refine q_invV (pc := 8) (As := [.int a2]) (st := []) k57_8 lm57_151 ov24 rfl rfl rfl (q_cat rfl) (Nat.le_of_ble_eq_true rfl) hd h ?_
  rintro v M1 ⟨r2, rfl, h⟩
  show q_Ex X d 57 (8 + 3) [some (.ref 0), some (.int a1), some (.int a2), some (.int a3), none] [.int r2] M1 _
  refine q_if_ne (pc := 11) 20 k57_11 (by decide) (fun g => ?_) (fun g => ?_)
  · replace h := h.1 g
    refine q_iload_n (pc := 20) k57_20 rfl ?_
    refine q_if_ge (pc := 21) 31 k57_21 (by decide) (fun g => ?_) (fun g => ?_)
    · replace h := h.1 g
      refine q_aload_n (pc := 31) k57_31 rfl ?_
      refine q_invV (pc := 32) (As := []) (st := []) k57_32 lm57_157 ov77 rfl rfl rfl (q_cat rfl) (Nat.le_of_ble_eq_true rfl) hd h ?_
      rintro v M3 ⟨r4, rfl, h⟩
      show q_Ex X d 57 (32 + 3) [some (.ref 0), some (.int a1), some (.int a2), some (.int a3), none] [.int r4] M3 _
      refine q_istore (pc := 35) [some (.ref 0), some (.int a1), some (.int a2), some (.int a3), some (.int r4)] k57_35 rfl (by decide) rfl ?_
      refine q_iload (pc := 37) k57_37 rfl ?_
      refine q_iconst (pc := 39) (v := 1) k57_39 (by decide) ?_
      refine q_icmp_ge (pc := 40) 46 k57_40 (by decide) (fun g => ?_) (fun g => ?_)
      · replace h := h.1 g
        refine q_aload_n (pc := 46) k57_46 rfl ?_
        refine q_iload (pc := 47) k57_47 rfl ?_
        refine q_iload_n (pc := 49) k57_49 rfl ?_
        refine q_invS (pc := 50) (As := [.int r4, .int a1]) (st := [.ref 0]) k57_50 lm57_194 os82 rfl rfl (q_cat rfl) (Nat.le_of_ble_eq_true rfl) hd h ?_
        rintro v M5 ⟨r6, rfl, h⟩
        show q_Ex X d 57 (50 + 3) [some (.ref 0), some (.int a1), some (.int a2), some (.int a3), some (.int r4)] [.int r6, .ref 0] M5 _
        refine q_iload_n (pc := 53) k57_53 rfl ?_
        refine q_iload_n (pc := 54) k57_54 rfl ?_
        refine q_invV (pc := 55) (As := [.int r6, .int a2, .int a3]) (st := []) k57_55 lm57_190 ov80 rfl rfl rfl (q_cat rfl) (Nat.le_of_ble_eq_true rfl) hd h ?_
        rintro v M7 ⟨r8, rfl, h⟩
        show q_Ex X d 57 (55 + 3) [some (.ref 0), some (.int a1), some (.int a2), some (.int a3), some (.int r4)] [.int r8] M7 _
        exact q_ireturn (pc := 58) k57_58 rfl ⟨_, rfl, h⟩
      · replace h := h.2 g
        refine q_bipush (pc := 43) (v := (-9)) k57_43 (by decide) ?_
        exact q_ireturn (pc := 45) k57_45 rfl ⟨_, rfl, h⟩
    · replace h := h.2 g
      refine q_aload_n (pc := 24) k57_24 rfl ?_
      refine q_bipush (pc := 25) (v := (-4)) k57_25 (by decide) ?_
      refine q_invV (pc := 27) (As := [.int (-4)]) (st := []) k57_27 lm57_100 ov72 rfl rfl rfl (q_cat rfl) (Nat.le_of_ble_eq_true rfl) hd h ?_
      rintro v M9 ⟨r10, rfl, h⟩
      show q_Ex X d 57 (27 + 3) [some (.ref 0), some (.int a1), some (.int a2), some (.int a3), none] [.int r10] M9 _
      exact q_ireturn (pc := 30) k57_30 rfl ⟨_, rfl, h⟩
  · replace h := h.2 g
    refine q_aload_n (pc := 14) k57_14 rfl ?_
    refine q_iconst (pc := 15) (v := (-1)) k57_15 (by decide) ?_
    refine q_invV (pc := 16) (As := [.int (-1)]) (st := []) k57_16 lm57_100 ov72 rfl rfl rfl (q_cat rfl) (Nat.le_of_ble_eq_true rfl) hd h ?_
    rintro v M11 ⟨r12, rfl, h⟩
    show q_Ex X d 57 (16 + 3) [some (.ref 0), some (.int a1), some (.int a2), some (.int a3), none] [.int r12] M11 _
    exact q_ireturn (pc := 19) k57_19 rfl ⟨_, rfl, h⟩
set_option maxRecDepth 20000 in
theorem vc58 {X : Nat × (Nat → Int32)} {d : Nat} (hd : 0 < d) {M : q_M} {K : Int32 → q_M → Prop} (h : q_Cr X (d - 1) 74 [.ref 0] M (fun r2 M1 => r2 = 64 ∧ (K (M1 64 0) M1))) : q_Ci X d 58 [.ref 0] M K := by
  show q_Ex X d 58 0 [some (.ref 0)] [] M (q_ri K)
  refine q_aload_n (pc := 0) k58_0 rfl ?_
  refine q_invV (pc := 1) (As := []) (st := []) k58_1 lm58_171 ov74 rfl rfl rfl (q_cat rfl) (Nat.le_of_ble_eq_true rfl) hd h ?_
  rintro v M1 ⟨r2, rfl, rfl, h⟩
  show q_Ex X d 58 (1 + 3) [some (.ref 0)] [.ref 64] M1 _
  refine q_getIv (pc := 4) (v := M1 64 0) k58_4 fg58_197 rfl rfl rfl ?_
  exact q_ireturn (pc := 7) k58_7 rfl ⟨_, rfl, h⟩
set_option maxRecDepth 20000 in
theorem vc59 {X : Nat × (Nat → Int32)} {d : Nat} (hd : 0 < d) {M : q_M} {K : Int32 → q_M → Prop} (h : q_Cr X (d - 1) 74 [.ref 0] M (fun r2 M1 => r2 = 64 ∧ (K (M1 64 1) M1))) : q_Ci X d 59 [.ref 0] M K := by
  show q_Ex X d 59 0 [some (.ref 0)] [] M (q_ri K)
  refine q_aload_n (pc := 0) k59_0 rfl ?_
  refine q_invV (pc := 1) (As := []) (st := []) k59_1 lm59_171 ov74 rfl rfl rfl (q_cat rfl) (Nat.le_of_ble_eq_true rfl) hd h ?_
  rintro v M1 ⟨r2, rfl, rfl, h⟩
  show q_Ex X d 59 (1 + 3) [some (.ref 0)] [.ref 64] M1 _
  refine q_getIv (pc := 4) (v := M1 64 1) k59_4 fg59_200 rfl rfl rfl ?_
  exact q_ireturn (pc := 7) k59_7 rfl ⟨_, rfl, h⟩
set_option maxRecDepth 20000 in
theorem vc60 {X : Nat × (Nat → Int32)} {d : Nat} (hd : 0 < d) {M : q_M} {a1 : Int32} {K : Int32 → q_M → Prop} (h : q_Ci X (d - 1) 23 [.ref 11, .int a1] M (fun r2 M1 => ((¬ r2 = 0) → ((((M1 10 4) < 4) → (vp_in (M1 10 4) 4 ∧ (K ((M1 10 4) + 1) (q_set (q_set M1 18 (Int32.toNatClampNeg (M1 10 4)) a1) 10 4 ((M1 10 4) + 1))))) ∧ ((¬ (M1 10 4) < 4) → (q_Ci X (d - 1) 72 [.ref 0, .int (-6)] M1 (fun r4 M3 => K r4 M3))))) ∧ ((r2 = 0) → (q_Ci X (d - 1) 72 [.ref 0, .int (-1)] M1 (fun r6 M5 => K r6 M5))))) : q_Ci X d 60 [.ref 0, .int a1] M K := by
  show q_Ex X d 60 0 [some (.ref 0), some (.int a1)] [] M (q_ri K)
  refine q_aload_n (pc := 0) k60_0 rfl ?_
  refine q_getR (pc := 1) k60_1 fg60_26 rfl rfl ?_
  refine q_getR (pc := 4) k60_4 fg60_63 rfl rfl ?_
  refine q_iload_n (pc := 7) k60_7 rfl ?_
  refine q_invV (pc := 8) (As := [.int a1]) (st := []) k60_8 lm60_121 ov23 rfl rfl rfl (q_cat rfl) (Nat.le_of_ble_eq_true rfl) hd h ?_
  rintro v M1 ⟨r2, rfl, h⟩
  show q_Ex X d 60 (8 + 3) [some (.ref 0), some (.int a1)] [.int r2] M1 _
  refine q_if_ne (pc := 11) 20 k60_11 (by decide) (fun g => ?_) (fun g => ?_)
  · replace h := h.1 g
    refine q_aload_n (pc := 20) k60_20 rfl ?_
    refine q_getR (pc := 21) k60_21 fg60_26 rfl rfl ?_
    refine q_getIv (pc := 24) (v := M1 10 4) k60_24 fg60_203 rfl rfl rfl ?_
    refine q_iconst (pc := 27) (v := 4) k60_27 (by decide) ?_
    refine q_icmp_lt (pc := 28) 38 k60_28 (by decide) (fun g => ?_) (fun g => ?_)
    · replace h := h.1 g
      refine q_aload_n (pc := 38) k60_38 rfl ?_
      refine q_getR (pc := 39) k60_39 fg60_26 rfl rfl ?_
      refine q_getR (pc := 42) k60_42 fg60_206 rfl rfl ?_
      refine q_aload_n (pc := 45) k60_45 rfl ?_
      refine q_getR (pc := 46) k60_46 fg60_26 rfl rfl ?_
      refine q_getIv (pc := 49) (v := M1 10 4) k60_49 fg60_203 rfl rfl rfl ?_
      refine q_iload_n (pc := 52) k60_52 rfl ?_
      refine q_iastv (pc := 53) (k := (Int32.toNatClampNeg (M1 10 4))) k60_53 rfl h.1 rfl ?_
      replace h := h.2
      refine q_aload_n (pc := 54) k60_54 rfl ?_
      refine q_getR (pc := 55) k60_55 fg60_26 rfl rfl ?_
      refine q_dup (pc := 58) k60_58 rfl ?_
      refine q_getIv (pc := 59) (v := M1 10 4) k60_59 fg60_203 rfl rfl rfl ?_
      refine q_iconst (pc := 62) (v := 1) k60_62 (by decide) ?_
      refine q_iadd (pc := 63) k60_63 ?_
      refine q_putI (pc := 64) k60_64 fp60_203 rfl rfl ?_
      refine q_aload_n (pc := 67) k60_67 rfl ?_
      refine q_getR (pc := 68) k60_68 fg60_26 rfl rfl ?_
      refine q_getIv (pc := 71) (v := (M1 10 4) + 1) k60_71 fg60_203 rfl rfl rfl ?_
      exact q_ireturn (pc := 74) k60_74 rfl ⟨_, rfl, h⟩
    · replace h := h.2 g
      refine q_aload_n (pc := 31) k60_31 rfl ?_
      refine q_bipush (pc := 32) (v := (-6)) k60_32 (by decide) ?_
      refine q_invV (pc := 34) (As := [.int (-6)]) (st := []) k60_34 lm60_100 ov72 rfl rfl rfl (q_cat rfl) (Nat.le_of_ble_eq_true rfl) hd h ?_
      rintro v M3 ⟨r4, rfl, h⟩
      show q_Ex X d 60 (34 + 3) [some (.ref 0), some (.int a1)] [.int r4] M3 _
      exact q_ireturn (pc := 37) k60_37 rfl ⟨_, rfl, h⟩
  · replace h := h.2 g
    refine q_aload_n (pc := 14) k60_14 rfl ?_
    refine q_iconst (pc := 15) (v := (-1)) k60_15 (by decide) ?_
    refine q_invV (pc := 16) (As := [.int (-1)]) (st := []) k60_16 lm60_100 ov72 rfl rfl rfl (q_cat rfl) (Nat.le_of_ble_eq_true rfl) hd h ?_
    rintro v M5 ⟨r6, rfl, h⟩
    show q_Ex X d 60 (16 + 3) [some (.ref 0), some (.int a1)] [.int r6] M5 _
    exact q_ireturn (pc := 19) k60_19 rfl ⟨_, rfl, h⟩
set_option maxRecDepth 20000 in
theorem vc61 {X : Nat × (Nat → Int32)} {d : Nat} (hd : 0 < d) {M : q_M} {K : Int32 → q_M → Prop} (h : q_Ci X (d - 1) 73 [.ref 0] M (fun r2 M1 => ((¬ r2 = 0) → (q_Ci X (d - 1) 6 [.ref 10] M1 (fun r4 M3 => ((¬ r4 = 0) → (q_Cr X (d - 1) 74 [.ref 0] M3 (fun r6 M5 => r6 = 64 ∧ (q_Cr X (d - 1) 75 [.ref 0] M5 (fun r8 M7 => q_Ci X (d - 1) 1 [.ref 91, .ref r8, .int (M7 10 3), .int r4, .int 2147483647] M7 (fun r10 M9 => K r10 M9)))))) ∧ ((r4 = 0) → (q_Ci X (d - 1) 77 [.ref 0] M3 (fun r12 M11 => K r12 M11)))))) ∧ ((r2 = 0) → (q_Ci X (d - 1) 72 [.ref 0, .int (-3)] M1 (fun r14 M13 => K r14 M13))))) : q_Ci X d 61 [.ref 0] M K := by
  show q_Ex X d 61 0 [some (.ref 0), none] [] M (q_ri K)
  refine q_aload_n (pc := 0) k61_0 rfl ?_
  refine q_invV (pc := 1) (As := []) (st := []) k61_1 lm61_137 ov73 rfl rfl rfl (q_cat rfl) (Nat.le_of_ble_eq_true rfl) hd h ?_
  rintro v M1 ⟨r2, rfl, h⟩
  show q_Ex X d 61 (1 + 3) [some (.ref 0), none] [.int r2] M1 _
  refine q_if_ne (pc := 4) 14 k61_4 (by decide) (fun g => ?_) (fun g => ?_)
  · replace h := h.1 g
    refine q_aload_n (pc := 14) k61_14 rfl ?_
    refine q_getR (pc := 15) k61_15 fg61_26 rfl rfl ?_
    refine q_invV (pc := 18) (As := []) (st := []) k61_18 lm61_209 ov6 rfl rfl rfl (q_cat rfl) (Nat.le_of_ble_eq_true rfl) hd h ?_
    rintro v M3 ⟨r4, rfl, h⟩
    show q_Ex X d 61 (18 + 3) [some (.ref 0), none] [.int r4] M3 _
    refine q_istore_n (pc := 21) [some (.ref 0), some (.int r4)] k61_21 rfl (by decide) rfl ?_
    refine q_iload_n (pc := 22) k61_22 rfl ?_
    refine q_if_ne (pc := 23) 31 k61_23 (by decide) (fun g => ?_) (fun g => ?_)
    · replace h := h.1 g
      refine q_aload_n (pc := 31) k61_31 rfl ?_
      refine q_invV (pc := 32) (As := []) (st := []) k61_32 lm61_171 ov74 rfl rfl rfl (q_cat rfl) (Nat.le_of_ble_eq_true rfl) hd h ?_
      rintro v M5 ⟨r6, rfl, rfl, h⟩
      show q_Ex X d 61 (32 + 3) [some (.ref 0), some (.int r4)] [.ref 64] M5 _
      refine q_pop (pc := 35) k61_35 rfl ?_
      refine q_aload_n (pc := 36) k61_36 rfl ?_
      refine q_getR (pc := 37) k61_37 fg61_94 rfl rfl ?_
      refine q_aload_n (pc := 40) k61_40 rfl ?_
      refine q_invV (pc := 41) (As := []) (st := [.ref 91]) k61_41 lm61_212 ov75 rfl rfl rfl (q_cat rfl) (Nat.le_of_ble_eq_true rfl) hd h ?_
      rintro v M7 ⟨r8, rfl, h⟩
      show q_Ex X d 61 (41 + 3) [some (.ref 0), some (.int r4)] [.ref r8, .ref 91] M7 _
      refine q_aload_n (pc := 44) k61_44 rfl ?_
      refine q_getR (pc := 45) k61_45 fg61_26 rfl rfl ?_
      refine q_getIv (pc := 48) (v := M7 10 3) k61_48 fg61_148 rfl rfl rfl ?_
      refine q_iload_n (pc := 51) k61_51 rfl ?_
      refine q_ldc (pc := 52) (v := 2147483647) k61_52 ld61_216 ?_
      refine q_invV (pc := 54) (As := [.ref r8, .int (M7 10 3), .int r4, .int 2147483647]) (st := []) k61_54 lm61_217 ov1 rfl rfl rfl (q_cat rfl) (Nat.le_of_ble_eq_true rfl) hd h ?_
      rintro v M9 ⟨r10, rfl, h⟩
      show q_Ex X d 61 (54 + 3) [some (.ref 0), some (.int r4)] [.int r10] M9 _
      exact q_ireturn (pc := 57) k61_57 rfl ⟨_, rfl, h⟩
    · replace h := h.2 g
      refine q_aload_n (pc := 26) k61_26 rfl ?_
      refine q_invV (pc := 27) (As := []) (st := []) k61_27 lm61_157 ov77 rfl rfl rfl (q_cat rfl) (Nat.le_of_ble_eq_true rfl) hd h ?_
      rintro v M11 ⟨r12, rfl, h⟩
      show q_Ex X d 61 (27 + 3) [some (.ref 0), some (.int r4)] [.int r12] M11 _
      exact q_ireturn (pc := 30) k61_30 rfl ⟨_, rfl, h⟩
  · replace h := h.2 g
    refine q_aload_n (pc := 7) k61_7 rfl ?_
    refine q_bipush (pc := 8) (v := (-3)) k61_8 (by decide) ?_
    refine q_invV (pc := 10) (As := [.int (-3)]) (st := []) k61_10 lm61_100 ov72 rfl rfl rfl (q_cat rfl) (Nat.le_of_ble_eq_true rfl) hd h ?_
    rintro v M13 ⟨r14, rfl, h⟩
    show q_Ex X d 61 (10 + 3) [some (.ref 0), none] [.int r14] M13 _
    exact q_ireturn (pc := 13) k61_13 rfl ⟨_, rfl, h⟩
set_option maxRecDepth 20000 in
theorem vc62 {X : Nat × (Nat → Int32)} {d : Nat} (hd : 0 < d) {M : q_M} {a1 : Int32} {K : Int32 → q_M → Prop} (h : q_Ci X (d - 1) 23 [.ref 11, .int a1] M (fun r2 M1 => ((¬ r2 = 0) → (q_Cr X (d - 1) 74 [.ref 0] M1 (fun r4 M3 => r4 = 64 ∧ (q_Ci X (d - 1) 76 [.ref 0] M3 (fun r6 M5 => q_Ci X (d - 1) 38 [.ref 64, .int a1, .int r6] M5 (fun r8 M7 => K r8 M7)))))) ∧ ((r2 = 0) → (q_Ci X (d - 1) 72 [.ref 0, .int (-1)] M1 (fun r10 M9 => K r10 M9))))) : q_Ci X d 62 [.ref 0, .int a1] M K := by
  show q_Ex X d 62 0 [some (.ref 0), some (.int a1)] [] M (q_ri K)
  refine q_aload_n (pc := 0) k62_0 rfl ?_
  refine q_getR (pc := 1) k62_1 fg62_26 rfl rfl ?_
  refine q_getR (pc := 4) k62_4 fg62_63 rfl rfl ?_
  refine q_iload_n (pc := 7) k62_7 rfl ?_
  refine q_invV (pc := 8) (As := [.int a1]) (st := []) k62_8 lm62_121 ov23 rfl rfl rfl (q_cat rfl) (Nat.le_of_ble_eq_true rfl) hd h ?_
  rintro v M1 ⟨r2, rfl, h⟩
  show q_Ex X d 62 (8 + 3) [some (.ref 0), some (.int a1)] [.int r2] M1 _
  refine q_if_ne (pc := 11) 20 k62_11 (by decide) (fun g => ?_) (fun g => ?_)
  · replace h := h.1 g
    refine q_aload_n (pc := 20) k62_20 rfl ?_
    refine q_invV (pc := 21) (As := []) (st := []) k62_21 lm62_171 ov74 rfl rfl rfl (q_cat rfl) (Nat.le_of_ble_eq_true rfl) hd h ?_
    rintro v M3 ⟨r4, rfl, rfl, h⟩
    show q_Ex X d 62 (21 + 3) [some (.ref 0), some (.int a1)] [.ref 64] M3 _
    refine q_iload_n (pc := 24) k62_24 rfl ?_
    refine q_aload_n (pc := 25) k62_25 rfl ?_
    refine q_invV (pc := 26) (As := []) (st := [.int a1, .ref 64]) k62_26 lm62_178 ov76 rfl rfl rfl (q_cat rfl) (Nat.le_of_ble_eq_true rfl) hd h ?_
    rintro v M5 ⟨r6, rfl, h⟩
    show q_Ex X d 62 (26 + 3) [some (.ref 0), some (.int a1)] [.int r6, .int a1, .ref 64] M5 _
    refine q_invV (pc := 29) (As := [.int a1, .int r6]) (st := []) k62_29 lm62_221 ov38 rfl rfl rfl (q_cat rfl) (Nat.le_of_ble_eq_true rfl) hd h ?_
    rintro v M7 ⟨r8, rfl, h⟩
    show q_Ex X d 62 (29 + 3) [some (.ref 0), some (.int a1)] [.int r8] M7 _
    exact q_ireturn (pc := 32) k62_32 rfl ⟨_, rfl, h⟩
  · replace h := h.2 g
    refine q_aload_n (pc := 14) k62_14 rfl ?_
    refine q_iconst (pc := 15) (v := (-1)) k62_15 (by decide) ?_
    refine q_invV (pc := 16) (As := [.int (-1)]) (st := []) k62_16 lm62_100 ov72 rfl rfl rfl (q_cat rfl) (Nat.le_of_ble_eq_true rfl) hd h ?_
    rintro v M9 ⟨r10, rfl, h⟩
    show q_Ex X d 62 (16 + 3) [some (.ref 0), some (.int a1)] [.int r10] M9 _
    exact q_ireturn (pc := 19) k62_19 rfl ⟨_, rfl, h⟩
set_option maxRecDepth 20000 in
theorem vc63 {X : Nat × (Nat → Int32)} {d : Nat} (hd : 0 < d) {M : q_M} {a1 : Int32} {K : Int32 → q_M → Prop} (h : q_Ci X (d - 1) 23 [.ref 11, .int a1] M (fun r2 M1 => ((¬ r2 = 0) → (vp_in a1 30 ∧ ((((M1 12 (Int32.toNatClampNeg a1)) = 0) → (q_Ci X (d - 1) 78 [.ref 0, .int a1] M1 (fun r4 M3 => K r4 M3))) ∧ ((¬ (M1 12 (Int32.toNatClampNeg a1)) = 0) → (q_Ci X (d - 1) 72 [.ref 0, .int (-3)] M1 (fun r6 M5 => K r6 M5)))))) ∧ ((r2 = 0) → (q_Ci X (d - 1) 72 [.ref 0, .int (-1)] M1 (fun r8 M7 => K r8 M7))))) : q_Ci X d 63 [.ref 0, .int a1] M K := by
  show q_Ex X d 63 0 [some (.ref 0), some (.int a1)] [] M (q_ri K)
  refine q_aload_n (pc := 0) k63_0 rfl ?_
  refine q_getR (pc := 1) k63_1 fg63_26 rfl rfl ?_
  refine q_getR (pc := 4) k63_4 fg63_63 rfl rfl ?_
  refine q_iload_n (pc := 7) k63_7 rfl ?_
  refine q_invV (pc := 8) (As := [.int a1]) (st := []) k63_8 lm63_121 ov23 rfl rfl rfl (q_cat rfl) (Nat.le_of_ble_eq_true rfl) hd h ?_
  rintro v M1 ⟨r2, rfl, h⟩
  show q_Ex X d 63 (8 + 3) [some (.ref 0), some (.int a1)] [.int r2] M1 _
  refine q_if_ne (pc := 11) 20 k63_11 (by decide) (fun g => ?_) (fun g => ?_)
  · replace h := h.1 g
    refine q_aload_n (pc := 20) k63_20 rfl ?_
    refine q_getR (pc := 21) k63_21 fg63_26 rfl rfl ?_
    refine q_getR (pc := 24) k63_24 fg63_63 rfl rfl ?_
    refine q_getR (pc := 27) k63_27 fg63_125 rfl rfl ?_
    refine q_iload_n (pc := 30) k63_30 rfl ?_
    refine q_ialdv (pc := 31) (v := M1 12 (Int32.toNatClampNeg a1)) k63_31 rfl h.1 rfl ?_
    replace h := h.2
    refine q_if_eq (pc := 32) 42 k63_32 (by decide) (fun g => ?_) (fun g => ?_)
    · replace h := h.1 g
      refine q_aload_n (pc := 42) k63_42 rfl ?_
      refine q_iload_n (pc := 43) k63_43 rfl ?_
      refine q_invV (pc := 44) (As := [.int a1]) (st := []) k63_44 lm63_184 ov78 rfl rfl rfl (q_cat rfl) (Nat.le_of_ble_eq_true rfl) hd h ?_
      rintro v M3 ⟨r4, rfl, h⟩
      show q_Ex X d 63 (44 + 3) [some (.ref 0), some (.int a1)] [.int r4] M3 _
      exact q_ireturn (pc := 47) k63_47 rfl ⟨_, rfl, h⟩
    · replace h := h.2 g
      refine q_aload_n (pc := 35) k63_35 rfl ?_
      refine q_bipush (pc := 36) (v := (-3)) k63_36 (by decide) ?_
      refine q_invV (pc := 38) (As := [.int (-3)]) (st := []) k63_38 lm63_100 ov72 rfl rfl rfl (q_cat rfl) (Nat.le_of_ble_eq_true rfl) hd h ?_
      rintro v M5 ⟨r6, rfl, h⟩
      show q_Ex X d 63 (38 + 3) [some (.ref 0), some (.int a1)] [.int r6] M5 _
      exact q_ireturn (pc := 41) k63_41 rfl ⟨_, rfl, h⟩
  · replace h := h.2 g
    refine q_aload_n (pc := 14) k63_14 rfl ?_
    refine q_iconst (pc := 15) (v := (-1)) k63_15 (by decide) ?_
    refine q_invV (pc := 16) (As := [.int (-1)]) (st := []) k63_16 lm63_100 ov72 rfl rfl rfl (q_cat rfl) (Nat.le_of_ble_eq_true rfl) hd h ?_
    rintro v M7 ⟨r8, rfl, h⟩
    show q_Ex X d 63 (16 + 3) [some (.ref 0), some (.int a1)] [.int r8] M7 _
    exact q_ireturn (pc := 19) k63_19 rfl ⟨_, rfl, h⟩
set_option maxRecDepth 20000 in
theorem vc64 {X : Nat × (Nat → Int32)} {d : Nat} {M : q_M} {K : Int32 → q_M → Prop} (h : q_Ex X d 64 11 [some (.ref 0), some (.int (M 11 4))] [] M (q_ri K)) : q_Ci X d 64 [.ref 0] M K := by
  show q_Ex X d 64 0 [some (.ref 0), none] [] M (q_ri K)
  refine q_aload_n (pc := 0) k64_0 rfl ?_
  refine q_getR (pc := 1) k64_1 fg64_26 rfl rfl ?_
  refine q_getR (pc := 4) k64_4 fg64_63 rfl rfl ?_
  refine q_getIv (pc := 7) (v := M 11 4) k64_7 fg64_141 rfl rfl rfl ?_
  refine q_istore_n (pc := 10) [some (.ref 0), some (.int (M 11 4))] k64_10 rfl (by decide) rfl ?_
  exact h
set_option maxRecDepth 20000 in
theorem vc64_p11 {X : Nat × (Nat → Int32)} {d : Nat} (hd : 0 < d) {M : q_M} {a1 : Int32} {K : Int32 → q_M → Prop} (h : ((a1 ≤ 0) → (K 0 M)) ∧ ((¬ a1 ≤ 0) → (q_Cv X (d - 1) 41 [.ref 54, .int a1] M (fun M1 => q_Ci X (d - 1) 1 [.ref 94, .ref 39, .int 0, .int 0, .int 1] M1 (fun r3 M2 => ((r3 ≤ 0) → (q_Ex X d 64 11 [some (.ref 0), some (.int (a1 + (-1)))] [] M2 (q_ri K))) ∧ ((¬ r3 ≤ 0) → (K a1 M2))))))) : q_Ex X d 64 11 [some (.ref 0), some (.int a1)] [] M (q_ri K) := by
  refine q_iload_n (pc := 11) k64_11 rfl ?_
  refine q_if_le (pc := 12) 50 k64_12 (by decide) (fun g => ?_) (fun g => ?_)
  · replace h := h.1 g
    refine q_iconst (pc := 50) (v := 0) k64_50 (by decide) ?_
    exact q_ireturn (pc := 51) k64_51 rfl ⟨_, rfl, h⟩
  · replace h := h.2 g
    refine q_aload_n (pc := 15) k64_15 rfl ?_
    refine q_getR (pc := 16) k64_16 fg64_73 rfl rfl ?_
    refine q_iload_n (pc := 19) k64_19 rfl ?_
    refine q_invV (pc := 20) (As := [.int a1]) (st := []) k64_20 lm64_224 ov41 rfl rfl rfl (q_cat rfl) (Nat.le_of_ble_eq_true rfl) hd h ?_
    rintro v M1 ⟨rfl, h⟩
    show q_Ex X d 64 (20 + 3) [some (.ref 0), some (.int a1)] [] M1 _
    refine q_aload_n (pc := 23) k64_23 rfl ?_
    refine q_getR (pc := 24) k64_24 fg64_97 rfl rfl ?_
    refine q_aload_n (pc := 27) k64_27 rfl ?_
    refine q_getR (pc := 28) k64_28 fg64_50 rfl rfl ?_
    refine q_iconst (pc := 31) (v := 0) k64_31 (by decide) ?_
    refine q_aaldv (pc := 32) (t := 39) k64_32 rfl (by decide) rfl ?_
    refine q_iconst (pc := 33) (v := 0) k64_33 (by decide) ?_
    refine q_iconst (pc := 34) (v := 0) k64_34 (by decide) ?_
    refine q_iconst (pc := 35) (v := 1) k64_35 (by decide) ?_
    refine q_invV (pc := 36) (As := [.ref 39, .int 0, .int 0, .int 1]) (st := []) k64_36 lm64_217 ov1 rfl rfl rfl (q_cat rfl) (Nat.le_of_ble_eq_true rfl) hd h ?_
    rintro v M2 ⟨r3, rfl, h⟩
    show q_Ex X d 64 (36 + 3) [some (.ref 0), some (.int a1)] [.int r3] M2 _
    refine q_if_le (pc := 39) 44 k64_39 (by decide) (fun g => ?_) (fun g => ?_)
    · replace h := h.1 g
      refine q_iinc (pc := 44) (v := a1 + (-1)) [some (.ref 0), some (.int (a1 + (-1)))] k64_44 rfl rfl rfl (by decide) rfl ?_
      refine q_goto (pc := 47) 11 k64_47 (by decide) ?_
      exact h
    · replace h := h.2 g
      refine q_iload_n (pc := 42) k64_42 rfl ?_
      exact q_ireturn (pc := 43) k64_43 rfl ⟨_, rfl, h⟩
set_option maxRecDepth 20000 in
theorem vc65 {X : Nat × (Nat → Int32)} {d : Nat} (hd : 0 < d) {M : q_M} {a1 a2 a3 : Int32} {K : Int32 → q_M → Prop} (h : ((a1 < 0) → (q_Ci X (d - 1) 72 [.ref 0, .int (-4)] M (fun r2 M1 => K r2 M1))) ∧ ((¬ a1 < 0) → (((a2 < 0) → (q_Ci X (d - 1) 72 [.ref 0, .int (-4)] M (fun r4 M3 => K r4 M3))) ∧ ((¬ a2 < 0) → (((0 ≤ a3) → (((4 < a1) → (q_Ci X (d - 1) 72 [.ref 0, .int (-6)] M (fun r6 M5 => K r6 M5))) ∧ ((¬ 4 < a1) → (((4 < a2) → (q_Ci X (d - 1) 72 [.ref 0, .int (-6)] M (fun r8 M7 => K r8 M7))) ∧ ((¬ 4 < a2) → (((a3 ≤ 4) → (q_Ci X (d - 1) 84 [.int a1, .int a2, .int a3] M (fun r10 M9 => K r10 M9))) ∧ ((¬ a3 ≤ 4) → (q_Ci X (d - 1) 72 [.ref 0, .int (-6)] M (fun r12 M11 => K r12 M11))))))))) ∧ ((¬ 0 ≤ a3) → (q_Ci X (d - 1) 72 [.ref 0, .int (-4)] M (fun r14 M13 => K r14 M13)))))))) : q_Ci X d 65 [.ref 0, .int a1, .int a2, .int a3] M K := by
  show q_Ex X d 65 0 [some (.ref 0), some (.int a1), some (.int a2), some (.int a3)] [] M (q_ri K)
  refine q_iload_n (pc := 0) k65_0 rfl ?_
  refine q_if_lt (pc := 1) 12 k65_1 (by decide) (fun g => ?_) (fun g => ?_)
  · replace h := h.1 g
    refine q_aload_n (pc := 12) k65_12 rfl ?_
    refine q_bipush (pc := 13) (v := (-4)) k65_13 (by decide) ?_
    refine q_invV (pc := 15) (As := [.int (-4)]) (st := []) k65_15 lm65_100 ov72 rfl rfl rfl (q_cat rfl) (Nat.le_of_ble_eq_true rfl) hd h ?_
    rintro v M1 ⟨r2, rfl, h⟩
    show q_Ex X d 65 (15 + 3) [some (.ref 0), some (.int a1), some (.int a2), some (.int a3)] [.int r2] M1 _
    exact q_ireturn (pc := 18) k65_18 rfl ⟨_, rfl, h⟩
  · replace h := h.2 g
    refine q_iload_n (pc := 4) k65_4 rfl ?_
    refine q_if_lt (pc := 5) 12 k65_5 (by decide) (fun g => ?_) (fun g => ?_)
    · replace h := h.1 g
      refine q_aload_n (pc := 12) k65_12 rfl ?_
      refine q_bipush (pc := 13) (v := (-4)) k65_13 (by decide) ?_
      refine q_invV (pc := 15) (As := [.int (-4)]) (st := []) k65_15 lm65_100 ov72 rfl rfl rfl (q_cat rfl) (Nat.le_of_ble_eq_true rfl) hd h ?_
      rintro v M3 ⟨r4, rfl, h⟩
      show q_Ex X d 65 (15 + 3) [some (.ref 0), some (.int a1), some (.int a2), some (.int a3)] [.int r4] M3 _
      exact q_ireturn (pc := 18) k65_18 rfl ⟨_, rfl, h⟩
    · replace h := h.2 g
      refine q_iload_n (pc := 8) k65_8 rfl ?_
      refine q_if_ge (pc := 9) 19 k65_9 (by decide) (fun g => ?_) (fun g => ?_)
      · replace h := h.1 g
        refine q_iload_n (pc := 19) k65_19 rfl ?_
        refine q_iconst (pc := 20) (v := 4) k65_20 (by decide) ?_
        refine q_icmp_gt (pc := 21) 34 k65_21 (by decide) (fun g => ?_) (fun g => ?_)
        · replace h := h.1 g
          refine q_aload_n (pc := 34) k65_34 rfl ?_
          refine q_bipush (pc := 35) (v := (-6)) k65_35 (by decide) ?_
          refine q_invV (pc := 37) (As := [.int (-6)]) (st := []) k65_37 lm65_100 ov72 rfl rfl rfl (q_cat rfl) (Nat.le_of_ble_eq_true rfl) hd h ?_
          rintro v M5 ⟨r6, rfl, h⟩
          show q_Ex X d 65 (37 + 3) [some (.ref 0), some (.int a1), some (.int a2), some (.int a3)] [.int r6] M5 _
          exact q_ireturn (pc := 40) k65_40 rfl ⟨_, rfl, h⟩
        · replace h := h.2 g
          refine q_iload_n (pc := 24) k65_24 rfl ?_
          refine q_iconst (pc := 25) (v := 4) k65_25 (by decide) ?_
          refine q_icmp_gt (pc := 26) 34 k65_26 (by decide) (fun g => ?_) (fun g => ?_)
          · replace h := h.1 g
            refine q_aload_n (pc := 34) k65_34 rfl ?_
            refine q_bipush (pc := 35) (v := (-6)) k65_35 (by decide) ?_
            refine q_invV (pc := 37) (As := [.int (-6)]) (st := []) k65_37 lm65_100 ov72 rfl rfl rfl (q_cat rfl) (Nat.le_of_ble_eq_true rfl) hd h ?_
            rintro v M7 ⟨r8, rfl, h⟩
            show q_Ex X d 65 (37 + 3) [some (.ref 0), some (.int a1), some (.int a2), some (.int a3)] [.int r8] M7 _
            exact q_ireturn (pc := 40) k65_40 rfl ⟨_, rfl, h⟩
          · replace h := h.2 g
            refine q_iload_n (pc := 29) k65_29 rfl ?_
            refine q_iconst (pc := 30) (v := 4) k65_30 (by decide) ?_
            refine q_icmp_le (pc := 31) 41 k65_31 (by decide) (fun g => ?_) (fun g => ?_)
            · replace h := h.1 g
              refine q_iload_n (pc := 41) k65_41 rfl ?_
              refine q_iload_n (pc := 42) k65_42 rfl ?_
              refine q_iload_n (pc := 43) k65_43 rfl ?_
              refine q_invS (pc := 44) (As := [.int a1, .int a2, .int a3]) (st := []) k65_44 lm65_228 os84 rfl rfl (q_cat rfl) (Nat.le_of_ble_eq_true rfl) hd h ?_
              rintro v M9 ⟨r10, rfl, h⟩
              show q_Ex X d 65 (44 + 3) [some (.ref 0), some (.int a1), some (.int a2), some (.int a3)] [.int r10] M9 _
              exact q_ireturn (pc := 47) k65_47 rfl ⟨_, rfl, h⟩
            · replace h := h.2 g
              refine q_aload_n (pc := 34) k65_34 rfl ?_
              refine q_bipush (pc := 35) (v := (-6)) k65_35 (by decide) ?_
              refine q_invV (pc := 37) (As := [.int (-6)]) (st := []) k65_37 lm65_100 ov72 rfl rfl rfl (q_cat rfl) (Nat.le_of_ble_eq_true rfl) hd h ?_
              rintro v M11 ⟨r12, rfl, h⟩
              show q_Ex X d 65 (37 + 3) [some (.ref 0), some (.int a1), some (.int a2), some (.int a3)] [.int r12] M11 _
              exact q_ireturn (pc := 40) k65_40 rfl ⟨_, rfl, h⟩
      · replace h := h.2 g
        refine q_aload_n (pc := 12) k65_12 rfl ?_
        refine q_bipush (pc := 13) (v := (-4)) k65_13 (by decide) ?_
        refine q_invV (pc := 15) (As := [.int (-4)]) (st := []) k65_15 lm65_100 ov72 rfl rfl rfl (q_cat rfl) (Nat.le_of_ble_eq_true rfl) hd h ?_
        rintro v M13 ⟨r14, rfl, h⟩
        show q_Ex X d 65 (15 + 3) [some (.ref 0), some (.int a1), some (.int a2), some (.int a3)] [.int r14] M13 _
        exact q_ireturn (pc := 18) k65_18 rfl ⟨_, rfl, h⟩
set_option maxRecDepth 20000 in
theorem vc66 {X : Nat × (Nat → Int32)} {d : Nat} (hd : 0 < d) {M : q_M} {a1 a2 : Int32} {K : Int32 → q_M → Prop} (h : q_Ci X (d - 1) 24 [.ref 11, .int a1] M (fun r2 M1 => ((¬ r2 = 0) → (((a2 = 0) → (vp_in a1 3 ∧ ((((M1 19 (Int32.toNatClampNeg a1)) < 10) → (vp_in a1 3 ∧ (vp_in (M1 19 (Int32.toNatClampNeg a1)) 10 ∧ (vp_in a1 3 ∧ (K ((M1 19 (Int32.toNatClampNeg a1)) + 1) (q_set (q_set M1 (21 + Int32.toNatClampNeg a1) (Int32.toNatClampNeg (M1 19 (Int32.toNatClampNeg a1))) a2) 19 (Int32.toNatClampNeg a1) ((M1 19 (Int32.toNatClampNeg a1)) + 1))))))) ∧ ((¬ (M1 19 (Int32.toNatClampNeg a1)) < 10) → (q_Ci X (d - 1) 72 [.ref 0, .int (-6)] M1 (fun r5 M4 => K r5 M4)))))) ∧ ((¬ a2 = 0) → (((a2 = 1) → (vp_in a1 3 ∧ ((((M1 19 (Int32.toNatClampNeg a1)) < 10) → (vp_in a1 3 ∧ (vp_in (M1 19 (Int32.toNatClampNeg a1)) 10 ∧ (vp_in a1 3 ∧ (K ((M1 19 (Int32.toNatClampNeg a1)) + 1) (q_set (q_set M1 (21 + Int32.toNatClampNeg a1) (Int32.toNatClampNeg (M1 19 (Int32.toNatClampNeg a1))) a2) 19 (Int32.toNatClampNeg a1) ((M1 19 (Int32.toNatClampNeg a1)) + 1))))))) ∧ ((¬ (M1 19 (Int32.toNatClampNeg a1)) < 10) → (q_Ci X (d - 1) 72 [.ref 0, .int (-6)] M1 (fun r8 M7 => K r8 M7)))))) ∧ ((¬ a2 = 1) → (q_Ci X (d - 1) 72 [.ref 0, .int (-2)] M1 (fun r10 M9 => K r10 M9))))))) ∧ ((r2 = 0) → (q_Ci X (d - 1) 72 [.ref 0, .int (-1)] M1 (fun r12 M11 => K r12 M11))))) : q_Ci X d 66 [.ref 0, .int a1, .int a2] M K := by
  show q_Ex X d 66 0 [some (.ref 0), some (.int a1), some (.int a2), none] [] M (q_ri K)
  refine q_aload_n (pc := 0) k66_0 rfl ?_
  refine q_getR (pc := 1) k66_1 fg66_26 rfl rfl ?_
  refine q_getR (pc := 4) k66_4 fg66_63 rfl rfl ?_
  refine q_iload_n (pc := 7) k66_7 rfl ?_
  refine q_invV (pc := 8) (As := [.int a1]) (st := []) k66_8 lm66_151 ov24 rfl rfl rfl (q_cat rfl) (Nat.le_of_ble_eq_true rfl) hd h ?_
  rintro v M1 ⟨r2, rfl, h⟩
  show q_Ex X d 66 (8 + 3) [some (.ref 0), some (.int a1), some (.int a2), none] [.int r2] M1 _
  refine q_if_ne (pc := 11) 20 k66_11 (by decide) (fun g => ?_) (fun g => ?_)
  · replace h := h.1 g
    refine q_iload_n (pc := 20) k66_20 rfl ?_
    refine q_if_eq (pc := 21) 36 k66_21 (by decide) (fun g => ?_) (fun g => ?_)
    · replace h := h.1 g
      refine q_aload_n (pc := 36) k66_36 rfl ?_
      refine q_getR (pc := 37) k66_37 fg66_26 rfl rfl ?_
      refine q_getR (pc := 40) k66_40 fg66_231 rfl rfl ?_
      refine q_iload_n (pc := 43) k66_43 rfl ?_
      refine q_ialdv (pc := 44) (v := M1 19 (Int32.toNatClampNeg a1)) k66_44 rfl h.1 rfl ?_
      replace h := h.2
      refine q_istore_n (pc := 45) [some (.ref 0), some (.int a1), some (.int a2), some (.int (M1 19 (Int32.toNatClampNeg a1)))] k66_45 rfl (by decide) rfl ?_
      refine q_iload_n (pc := 46) k66_46 rfl ?_
      refine q_bipush (pc := 47) (v := 10) k66_47 (by decide) ?_
      refine q_icmp_lt (pc := 49) 59 k66_49 (by decide) (fun g => ?_) (fun g => ?_)
      · replace h := h.1 g
        refine q_aload_n (pc := 59) k66_59 rfl ?_
        refine q_getR (pc := 60) k66_60 fg66_26 rfl rfl ?_
        refine q_getR (pc := 63) k66_63 fg66_234 rfl rfl ?_
        refine q_iload_n (pc := 66) k66_66 rfl ?_
        have w3 := h.1
        replace h := h.2
        refine q_aald (pc := 67) k66_67 rfl w3 ?_
        refine q_iload_n (pc := 68) k66_68 rfl ?_
        refine q_iload_n (pc := 69) k66_69 rfl ?_
        refine q_iastv (pc := 70) (k := (Int32.toNatClampNeg (M1 19 (Int32.toNatClampNeg a1)))) k66_70 (rw20 w3) h.1 rfl ?_
        replace h := h.2
        refine q_aload_n (pc := 71) k66_71 rfl ?_
        refine q_getR (pc := 72) k66_72 fg66_26 rfl rfl ?_
        refine q_getR (pc := 75) k66_75 fg66_231 rfl rfl ?_
        refine q_iload_n (pc := 78) k66_78 rfl ?_
        refine q_iload_n (pc := 79) k66_79 rfl ?_
        refine q_iconst (pc := 80) (v := 1) k66_80 (by decide) ?_
        refine q_iadd (pc := 81) k66_81 ?_
        refine q_iastv (pc := 82) (k := (Int32.toNatClampNeg a1)) k66_82 rfl h.1 rfl ?_
        replace h := h.2
        refine q_iload_n (pc := 83) k66_83 rfl ?_
        refine q_iconst (pc := 84) (v := 1) k66_84 (by decide) ?_
        refine q_iadd (pc := 85) k66_85 ?_
        exact q_ireturn (pc := 86) k66_86 rfl ⟨_, rfl, h⟩
      · replace h := h.2 g
        refine q_aload_n (pc := 52) k66_52 rfl ?_
        refine q_bipush (pc := 53) (v := (-6)) k66_53 (by decide) ?_
        refine q_invV (pc := 55) (As := [.int (-6)]) (st := []) k66_55 lm66_100 ov72 rfl rfl rfl (q_cat rfl) (Nat.le_of_ble_eq_true rfl) hd h ?_
        rintro v M4 ⟨r5, rfl, h⟩
        show q_Ex X d 66 (55 + 3) [some (.ref 0), some (.int a1), some (.int a2), some (.int (M1 19 (Int32.toNatClampNeg a1)))] [.int r5] M4 _
        exact q_ireturn (pc := 58) k66_58 rfl ⟨_, rfl, h⟩
    · replace h := h.2 g
      refine q_iload_n (pc := 24) k66_24 rfl ?_
      refine q_iconst (pc := 25) (v := 1) k66_25 (by decide) ?_
      refine q_icmp_eq (pc := 26) 36 k66_26 (by decide) (fun g => ?_) (fun g => ?_)
      · replace h := h.1 g
        refine q_aload_n (pc := 36) k66_36 rfl ?_
        refine q_getR (pc := 37) k66_37 fg66_26 rfl rfl ?_
        refine q_getR (pc := 40) k66_40 fg66_231 rfl rfl ?_
        refine q_iload_n (pc := 43) k66_43 rfl ?_
        refine q_ialdv (pc := 44) (v := M1 19 (Int32.toNatClampNeg a1)) k66_44 rfl h.1 rfl ?_
        replace h := h.2
        refine q_istore_n (pc := 45) [some (.ref 0), some (.int a1), some (.int a2), some (.int (M1 19 (Int32.toNatClampNeg a1)))] k66_45 rfl (by decide) rfl ?_
        refine q_iload_n (pc := 46) k66_46 rfl ?_
        refine q_bipush (pc := 47) (v := 10) k66_47 (by decide) ?_
        refine q_icmp_lt (pc := 49) 59 k66_49 (by decide) (fun g => ?_) (fun g => ?_)
        · replace h := h.1 g
          refine q_aload_n (pc := 59) k66_59 rfl ?_
          refine q_getR (pc := 60) k66_60 fg66_26 rfl rfl ?_
          refine q_getR (pc := 63) k66_63 fg66_234 rfl rfl ?_
          refine q_iload_n (pc := 66) k66_66 rfl ?_
          have w6 := h.1
          replace h := h.2
          refine q_aald (pc := 67) k66_67 rfl w6 ?_
          refine q_iload_n (pc := 68) k66_68 rfl ?_
          refine q_iload_n (pc := 69) k66_69 rfl ?_
          refine q_iastv (pc := 70) (k := (Int32.toNatClampNeg (M1 19 (Int32.toNatClampNeg a1)))) k66_70 (rw20 w6) h.1 rfl ?_
          replace h := h.2
          refine q_aload_n (pc := 71) k66_71 rfl ?_
          refine q_getR (pc := 72) k66_72 fg66_26 rfl rfl ?_
          refine q_getR (pc := 75) k66_75 fg66_231 rfl rfl ?_
          refine q_iload_n (pc := 78) k66_78 rfl ?_
          refine q_iload_n (pc := 79) k66_79 rfl ?_
          refine q_iconst (pc := 80) (v := 1) k66_80 (by decide) ?_
          refine q_iadd (pc := 81) k66_81 ?_
          refine q_iastv (pc := 82) (k := (Int32.toNatClampNeg a1)) k66_82 rfl h.1 rfl ?_
          replace h := h.2
          refine q_iload_n (pc := 83) k66_83 rfl ?_
          refine q_iconst (pc := 84) (v := 1) k66_84 (by decide) ?_
          refine q_iadd (pc := 85) k66_85 ?_
          exact q_ireturn (pc := 86) k66_86 rfl ⟨_, rfl, h⟩
        · replace h := h.2 g
          refine q_aload_n (pc := 52) k66_52 rfl ?_
          refine q_bipush (pc := 53) (v := (-6)) k66_53 (by decide) ?_
          refine q_invV (pc := 55) (As := [.int (-6)]) (st := []) k66_55 lm66_100 ov72 rfl rfl rfl (q_cat rfl) (Nat.le_of_ble_eq_true rfl) hd h ?_
          rintro v M7 ⟨r8, rfl, h⟩
          show q_Ex X d 66 (55 + 3) [some (.ref 0), some (.int a1), some (.int a2), some (.int (M1 19 (Int32.toNatClampNeg a1)))] [.int r8] M7 _
          exact q_ireturn (pc := 58) k66_58 rfl ⟨_, rfl, h⟩
      · replace h := h.2 g
        refine q_aload_n (pc := 29) k66_29 rfl ?_
        refine q_bipush (pc := 30) (v := (-2)) k66_30 (by decide) ?_
        refine q_invV (pc := 32) (As := [.int (-2)]) (st := []) k66_32 lm66_100 ov72 rfl rfl rfl (q_cat rfl) (Nat.le_of_ble_eq_true rfl) hd h ?_
        rintro v M9 ⟨r10, rfl, h⟩
        show q_Ex X d 66 (32 + 3) [some (.ref 0), some (.int a1), some (.int a2), none] [.int r10] M9 _
        exact q_ireturn (pc := 35) k66_35 rfl ⟨_, rfl, h⟩
  · replace h := h.2 g
    refine q_aload_n (pc := 14) k66_14 rfl ?_
    refine q_iconst (pc := 15) (v := (-1)) k66_15 (by decide) ?_
    refine q_invV (pc := 16) (As := [.int (-1)]) (st := []) k66_16 lm66_100 ov72 rfl rfl rfl (q_cat rfl) (Nat.le_of_ble_eq_true rfl) hd h ?_
    rintro v M11 ⟨r12, rfl, h⟩
    show q_Ex X d 66 (16 + 3) [some (.ref 0), some (.int a1), some (.int a2), none] [.int r12] M11 _
    exact q_ireturn (pc := 19) k66_19 rfl ⟨_, rfl, h⟩
set_option maxRecDepth 20000 in
theorem vc67 {X : Nat × (Nat → Int32)} {d : Nat} (hd : 0 < d) {M : q_M} {K : Int32 → q_M → Prop} (h : q_Ci X (d - 1) 73 [.ref 0] M (fun r2 M1 => ((¬ r2 = 0) → (q_Ci X (d - 1) 7 [.ref 10] M1 (fun r4 M3 => ((r4 < 0) → (q_Ci X (d - 1) 81 [.ref 0] M3 (fun r6 M5 => ((r6 < 0) → (q_Ci X (d - 1) 10 [.ref 10] M5 (fun r8 M7 => K r8 M7))) ∧ ((¬ r6 < 0) → (K (100 + r6) M5))))) ∧ ((¬ r4 < 0) → (K (1000 + r4) M3))))) ∧ ((r2 = 0) → (q_Ci X (d - 1) 72 [.ref 0, .int (-3)] M1 (fun r10 M9 => K r10 M9))))) : q_Ci X d 67 [.ref 0] M K := by
  show q_Ex X d 67 0 [some (.ref 0), none, none] [] M (q_ri K)
  refine q_aload_n (pc := 0) k67_0 rfl ?_
  refine q_invV (pc := 1) (As := []) (st := []) k67_1 lm67_137 ov73 rfl rfl rfl (q_cat rfl) (Nat.le_of_ble_eq_true rfl) hd h ?_
  rintro v M1 ⟨r2, rfl, h⟩
  show q_Ex X d 67 (1 + 3) [some (.ref 0), none, none] [.int r2] M1 _
  refine q_if_ne (pc := 4) 14 k67_4 (by decide) (fun g => ?_) (fun g => ?_)
  · replace h := h.1 g
    refine q_aload_n (pc := 14) k67_14 rfl ?_
    refine q_getR (pc := 15) k67_15 fg67_26 rfl rfl ?_
    refine q_invV (pc := 18) (As := []) (st := []) k67_18 lm67_238 ov7 rfl rfl rfl (q_cat rfl) (Nat.le_of_ble_eq_true rfl) hd h ?_
    rintro v M3 ⟨r4, rfl, h⟩
    show q_Ex X d 67 (18 + 3) [some (.ref 0), none, none] [.int r4] M3 _
    refine q_istore_n (pc := 21) [some (.ref 0), some (.int r4), none] k67_21 rfl (by decide) rfl ?_
    refine q_iload_n (pc := 22) k67_22 rfl ?_
    refine q_if_lt (pc := 23) 32 k67_23 (by decide) (fun g => ?_) (fun g => ?_)
    · replace h := h.1 g
      refine q_aload_n (pc := 32) k67_32 rfl ?_
      refine q_invV (pc := 33) (As := []) (st := []) k67_33 lm67_241 ov81 rfl rfl rfl (q_cat rfl) (Nat.le_of_ble_eq_true rfl) hd h ?_
      rintro v M5 ⟨r6, rfl, h⟩
      show q_Ex X d 67 (33 + 3) [some (.ref 0), some (.int r4), none] [.int r6] M5 _
      refine q_istore_n (pc := 36) [some (.ref 0), some (.int r4), some (.int r6)] k67_36 rfl (by decide) rfl ?_
      refine q_iload_n (pc := 37) k67_37 rfl ?_
      refine q_if_lt (pc := 38) 46 k67_38 (by decide) (fun g => ?_) (fun g => ?_)
      · replace h := h.1 g
        refine q_aload_n (pc := 46) k67_46 rfl ?_
        refine q_getR (pc := 47) k67_47 fg67_26 rfl rfl ?_
        refine q_invV (pc := 50) (As := []) (st := []) k67_50 lm67_244 ov10 rfl rfl rfl (q_cat rfl) (Nat.le_of_ble_eq_true rfl) hd h ?_
        rintro v M7 ⟨r8, rfl, h⟩
        show q_Ex X d 67 (50 + 3) [some (.ref 0), some (.int r4), some (.int r6)] [.int r8] M7 _
        exact q_ireturn (pc := 53) k67_53 rfl ⟨_, rfl, h⟩
      · replace h := h.2 g
        refine q_bipush (pc := 41) (v := 100) k67_41 (by decide) ?_
        refine q_iload_n (pc := 43) k67_43 rfl ?_
        refine q_iadd (pc := 44) k67_44 ?_
        exact q_ireturn (pc := 45) k67_45 rfl ⟨_, rfl, h⟩
    · replace h := h.2 g
      refine q_sipush (pc := 26) (v := 1000) k67_26 (by decide) ?_
      refine q_iload_n (pc := 29) k67_29 rfl ?_
      refine q_iadd (pc := 30) k67_30 ?_
      exact q_ireturn (pc := 31) k67_31 rfl ⟨_, rfl, h⟩
  · replace h := h.2 g
    refine q_aload_n (pc := 7) k67_7 rfl ?_
    refine q_bipush (pc := 8) (v := (-3)) k67_8 (by decide) ?_
    refine q_invV (pc := 10) (As := [.int (-3)]) (st := []) k67_10 lm67_100 ov72 rfl rfl rfl (q_cat rfl) (Nat.le_of_ble_eq_true rfl) hd h ?_
    rintro v M9 ⟨r10, rfl, h⟩
    show q_Ex X d 67 (10 + 3) [some (.ref 0), none, none] [.int r10] M9 _
    exact q_ireturn (pc := 13) k67_13 rfl ⟨_, rfl, h⟩
set_option maxRecDepth 20000 in
theorem vc68 {X : Nat × (Nat → Int32)} {d : Nat} (hd : 0 < d) {M : q_M} {K : Int32 → q_M → Prop} (h : q_Ci X (d - 1) 5 [.ref 10] M (fun r2 M1 => K r2 M1)) : q_Ci X d 68 [.ref 0] M K := by
  show q_Ex X d 68 0 [some (.ref 0)] [] M (q_ri K)
  refine q_aload_n (pc := 0) k68_0 rfl ?_
  refine q_getR (pc := 1) k68_1 fg68_26 rfl rfl ?_
  refine q_invV (pc := 4) (As := []) (st := []) k68_4 lm68_247 ov5 rfl rfl rfl (q_cat rfl) (Nat.le_of_ble_eq_true rfl) hd h ?_
  rintro v M1 ⟨r2, rfl, h⟩
  show q_Ex X d 68 (4 + 3) [some (.ref 0)] [.int r2] M1 _
  exact q_ireturn (pc := 7) k68_7 rfl ⟨_, rfl, h⟩
set_option maxRecDepth 20000 in
theorem vc69 {X : Nat × (Nat → Int32)} {d : Nat} (hd : 0 < d) {M : q_M} {K : Int32 → q_M → Prop} (h : q_Cv X (d - 1) 3 [.ref 24, .ref 10] M (fun M1 => K (M1 11 2) (q_set M1 0 6 1))) : q_Ci X d 69 [.ref 0] M K := by
  show q_Ex X d 69 0 [some (.ref 0)] [] M (q_ri K)
  refine q_aload_n (pc := 0) k69_0 rfl ?_
  refine q_getR (pc := 1) k69_1 fg69_30 rfl rfl ?_
  refine q_aload_n (pc := 4) k69_4 rfl ?_
  refine q_getR (pc := 5) k69_5 fg69_26 rfl rfl ?_
  refine q_invV (pc := 8) (As := [.ref 10]) (st := []) k69_8 lm69_250 ov3 rfl rfl rfl (q_cat rfl) (Nat.le_of_ble_eq_true rfl) hd h ?_
  rintro v M1 ⟨rfl, h⟩
  show q_Ex X d 69 (8 + 3) [some (.ref 0)] [] M1 _
  refine q_aload_n (pc := 11) k69_11 rfl ?_
  refine q_iconst (pc := 12) (v := 1) k69_12 (by decide) ?_
  refine q_putZ (pc := 13) k69_13 fp69_254 rfl rfl (by decide) ?_
  refine q_aload_n (pc := 16) k69_16 rfl ?_
  refine q_getR (pc := 17) k69_17 fg69_26 rfl rfl ?_
  refine q_getR (pc := 20) k69_20 fg69_63 rfl rfl ?_
  refine q_getIv (pc := 23) (v := M1 11 2) k69_23 fg69_118 rfl rfl rfl ?_
  exact q_ireturn (pc := 26) k69_26 rfl ⟨_, rfl, h⟩
set_option maxRecDepth 20000 in
theorem vc70 {X : Nat × (Nat → Int32)} {d : Nat} (hd : 0 < d) {M : q_M} {K : Int32 → q_M → Prop} (h : ((¬ (M 0 6) = 0) → (q_Cv X (d - 1) 3 [.ref 10, .ref 24] M (fun M1 => K (M1 11 2) (q_set M1 0 16 (-1))))) ∧ (((M 0 6) = 0) → (q_Ci X (d - 1) 72 [.ref 0, .int (-3)] M (fun r3 M2 => K r3 M2)))) : q_Ci X d 70 [.ref 0] M K := by
  show q_Ex X d 70 0 [some (.ref 0)] [] M (q_ri K)
  refine q_aload_n (pc := 0) k70_0 rfl ?_
  refine q_getIv (pc := 1) (v := M 0 6) k70_1 fg70_254 rfl rfl rfl ?_
  refine q_if_ne (pc := 4) 14 k70_4 (by decide) (fun g => ?_) (fun g => ?_)
  · replace h := h.1 g
    refine q_aload_n (pc := 14) k70_14 rfl ?_
    refine q_getR (pc := 15) k70_15 fg70_26 rfl rfl ?_
    refine q_aload_n (pc := 18) k70_18 rfl ?_
    refine q_getR (pc := 19) k70_19 fg70_30 rfl rfl ?_
    refine q_invV (pc := 22) (As := [.ref 24]) (st := []) k70_22 lm70_250 ov3 rfl rfl rfl (q_cat rfl) (Nat.le_of_ble_eq_true rfl) hd h ?_
    rintro v M1 ⟨rfl, h⟩
    show q_Ex X d 70 (22 + 3) [some (.ref 0)] [] M1 _
    refine q_aload_n (pc := 25) k70_25 rfl ?_
    refine q_iconst (pc := 26) (v := (-1)) k70_26 (by decide) ?_
    refine q_putI (pc := 27) k70_27 fp70_58 rfl rfl ?_
    refine q_aload_n (pc := 30) k70_30 rfl ?_
    refine q_getR (pc := 31) k70_31 fg70_26 rfl rfl ?_
    refine q_getR (pc := 34) k70_34 fg70_63 rfl rfl ?_
    refine q_getIv (pc := 37) (v := M1 11 2) k70_37 fg70_118 rfl rfl rfl ?_
    exact q_ireturn (pc := 40) k70_40 rfl ⟨_, rfl, h⟩
  · replace h := h.2 g
    refine q_aload_n (pc := 7) k70_7 rfl ?_
    refine q_bipush (pc := 8) (v := (-3)) k70_8 (by decide) ?_
    refine q_invV (pc := 10) (As := [.int (-3)]) (st := []) k70_10 lm70_100 ov72 rfl rfl rfl (q_cat rfl) (Nat.le_of_ble_eq_true rfl) hd h ?_
    rintro v M2 ⟨r3, rfl, h⟩
    show q_Ex X d 70 (10 + 3) [some (.ref 0)] [.int r3] M2 _
    exact q_ireturn (pc := 13) k70_13 rfl ⟨_, rfl, h⟩
