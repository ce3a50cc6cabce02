set_option maxRecDepth 20000 in
theorem vc85 {X : Nat × (Nat → Int32)} {d : Nat} {M : q_M} {a0 : Int32} {K : Int32 → q_M → Prop} (h : ((a0 < 1) → (K 0 M)) ∧ ((¬ a0 < 1) → (((a0 ≤ 3) → (vp_in a0 5 ∧ (K ((q_rc X 1).2 (Int32.toNatClampNeg a0)) M))) ∧ ((¬ a0 ≤ 3) → (K 0 M))))) : q_Ci X d 85 [.int a0] M K := by
  show q_Ex X d 85 0 [some (.int a0)] [] M (q_ri K)
  refine q_iload_n (pc := 0) k85_0 rfl ?_
  refine q_iconst (pc := 1) (v := 1) k85_1 (by decide) ?_
  refine q_icmp_lt (pc := 2) 10 k85_2 (by decide) (fun g1 => ?_) (fun g1 => ?_)
  · replace h := h.1 g1
    refine q_iconst (pc := 10) (v := 0) k85_10 (by decide) ?_
    refine q_goto (pc := 11) 19 k85_11 (by decide) ?_
    exact q_ireturn (pc := 19) k85_19 rfl ⟨_, rfl, h⟩
  · replace h := h.2 g1
    refine q_iload_n (pc := 5) k85_5 rfl ?_
    refine q_iconst (pc := 6) (v := 3) k85_6 (by decide) ?_
    refine q_icmp_le (pc := 7) 14 k85_7 (by decide) (fun g2 => ?_) (fun g2 => ?_)
    · replace h := h.1 g2
      refine q_gets (pc := 14) k85_14 (j := 1) (by decide) fs85_307 ?_
      refine q_iload_n (pc := 17) k85_17 rfl ?_
      refine q_raldv (pc := 18) (j := 1) (v := (q_rc X 1).2 (Int32.toNatClampNeg a0)) k85_18 (by decide) h.1 rfl ?_
      replace h := h.2
      exact q_ireturn (pc := 19) k85_19 rfl ⟨_, rfl, h⟩
    · replace h := h.2 g2
      refine q_iconst (pc := 10) (v := 0) k85_10 (by decide) ?_
      refine q_goto (pc := 11) 19 k85_11 (by decide) ?_
      exact q_ireturn (pc := 19) k85_19 rfl ⟨_, rfl, h⟩
set_option maxRecDepth 20000 in
theorem vc86 {X : Nat × (Nat → Int32)} {d : Nat} {M : q_M} {a0 : Int32} {K : Int32 → q_M → Prop} (h : ((a0 < 1) → (K 0 M)) ∧ ((¬ a0 < 1) → (((a0 ≤ 3) → (vp_in (a0 + 1) 5 ∧ (K ((q_rc X 1).2 (Int32.toNatClampNeg (a0 + 1))) M))) ∧ ((¬ a0 ≤ 3) → (K 0 M))))) : q_Ci X d 86 [.int a0] M K := by
  show q_Ex X d 86 0 [some (.int a0)] [] M (q_ri K)
  refine q_iload_n (pc := 0) k86_0 rfl ?_
  refine q_iconst (pc := 1) (v := 1) k86_1 (by decide) ?_
  refine q_icmp_lt (pc := 2) 10 k86_2 (by decide) (fun g1 => ?_) (fun g1 => ?_)
  · replace h := h.1 g1
    refine q_iconst (pc := 10) (v := 0) k86_10 (by decide) ?_
    refine q_goto (pc := 11) 21 k86_11 (by decide) ?_
    exact q_ireturn (pc := 21) k86_21 rfl ⟨_, rfl, h⟩
  · replace h := h.2 g1
    refine q_iload_n (pc := 5) k86_5 rfl ?_
    refine q_iconst (pc := 6) (v := 3) k86_6 (by decide) ?_
    refine q_icmp_le (pc := 7) 14 k86_7 (by decide) (fun g2 => ?_) (fun g2 => ?_)
    · replace h := h.1 g2
      refine q_gets (pc := 14) k86_14 (j := 1) (by decide) fs86_307 ?_
      refine q_iload_n (pc := 17) k86_17 rfl ?_
      refine q_iconst (pc := 18) (v := 1) k86_18 (by decide) ?_
      refine q_iadd (pc := 19) k86_19 ?_
      refine q_raldv (pc := 20) (j := 1) (v := (q_rc X 1).2 (Int32.toNatClampNeg (a0 + 1))) k86_20 (by decide) h.1 rfl ?_
      replace h := h.2
      exact q_ireturn (pc := 21) k86_21 rfl ⟨_, rfl, h⟩
    · replace h := h.2 g2
      refine q_iconst (pc := 10) (v := 0) k86_10 (by decide) ?_
      refine q_goto (pc := 11) 21 k86_11 (by decide) ?_
      exact q_ireturn (pc := 21) k86_21 rfl ⟨_, rfl, h⟩
set_option maxRecDepth 20000 in
theorem vc87 {X : Nat × (Nat → Int32)} {d : Nat} (hd : 0 < d) {M : q_M} {a0 a1 : Int32} {K : Int32 → q_M → Prop} (h : q_Ci X (d - 1) 85 [.int a1] M (fun r2 M1 => q_Ex X d 87 5 [some (.int a0), some (.int a1), some (.int r2)] [] M1 (q_ri K))) : q_Ci X d 87 [.int a0, .int a1] M K := by
  show q_Ex X d 87 0 [some (.int a0), some (.int a1), none] [] M (q_ri K)
  refine q_iload_n (pc := 0) k87_0 rfl ?_
  refine q_invS (pc := 1) (As := [.int a1]) (st := []) k87_1 lm87_165 os85 rfl rfl (q_cat rfl) (Nat.le_of_ble_eq_true rfl) hd h ?_
  rintro v M1 ⟨r2, rfl, h⟩
  show q_Ex X d 87 (1 + 3) [some (.int a0), some (.int a1), none] [.int r2] M1 _
  refine q_istore_n (pc := 4) [some (.int a0), some (.int a1), some (.int r2)] k87_4 rfl (by decide) rfl ?_
  exact h
set_option maxRecDepth 20000 in
theorem vc87_p5 {X : Nat × (Nat → Int32)} {d : Nat} (hd : 0 < d) {M : q_M} {a0 a1 a2 : Int32} {K : Int32 → q_M → Prop} (h : q_Ci X (d - 1) 86 [.int a1] M (fun r2 M1 => ((r2 ≤ a2) → (K (-1) M1)) ∧ ((¬ r2 ≤ a2) → (vp_in a2 9 ∧ (((¬ ((q_rc X 0).2 (Int32.toNatClampNeg a2)) = a0) → (q_Ex X d 87 5 [some (.int a0), some (.int a1), some (.int (a2 + 1))] [] M1 (q_ri K))) ∧ ((((q_rc X 0).2 (Int32.toNatClampNeg a2)) = a0) → (K a2 M1))))))) : q_Ex X d 87 5 [some (.int a0), some (.int a1), some (.int a2)] [] M (q_ri K) := by
  refine q_iload_n (pc := 5) k87_5 rfl ?_
  refine q_iload_n (pc := 6) k87_6 rfl ?_
  refine q_invS (pc := 7) (As := [.int a1]) (st := [.int a2]) k87_7 lm87_168 os86 rfl rfl (q_cat rfl) (Nat.le_of_ble_eq_true rfl) hd h ?_
  rintro v M1 ⟨r2, rfl, h⟩
  show q_Ex X d 87 (7 + 3) [some (.int a0), some (.int a1), some (.int a2)] [.int r2, .int a2] M1 _
  refine q_icmp_ge (pc := 10) 30 k87_10 (by decide) (fun g3 => ?_) (fun g3 => ?_)
  · replace h := h.1 g3
    refine q_iconst (pc := 30) (v := (-1)) k87_30 (by decide) ?_
    exact q_ireturn (pc := 31) k87_31 rfl ⟨_, rfl, h⟩
  · replace h := h.2 g3
    refine q_gets (pc := 13) k87_13 (j := 0) (by decide) fs87_274 ?_
    refine q_iload_n (pc := 16) k87_16 rfl ?_
    refine q_raldv (pc := 17) (j := 0) (v := (q_rc X 0).2 (Int32.toNatClampNeg a2)) k87_17 (by decide) h.1 rfl ?_
    replace h := h.2
    refine q_iload_n (pc := 18) k87_18 rfl ?_
    refine q_icmp_ne (pc := 19) 24 k87_19 (by decide) (fun g4 => ?_) (fun g4 => ?_)
    · replace h := h.1 g4
      refine q_iinc (pc := 24) (v := a2 + 1) [some (.int a0), some (.int a1), some (.int (a2 + 1))] k87_24 rfl rfl rfl (by decide) rfl ?_
      refine q_goto (pc := 27) 5 k87_27 (by decide) ?_
      exact h
    · replace h := h.2 g4
      refine q_iload_n (pc := 22) k87_22 rfl ?_
      exact q_ireturn (pc := 23) k87_23 rfl ⟨_, rfl, h⟩
set_option maxRecDepth 20000 in
theorem vc88 {X : Nat × (Nat → Int32)} {d : Nat} (hd : 0 < d) {M : q_M} {a0 : Int32} {K : Int32 → q_M → Prop} (h : q_Ci X (d - 1) 85 [.int a0] M (fun r2 M1 => vp_in r2 9 ∧ (K ((q_rc X 0).2 (Int32.toNatClampNeg r2)) M1))) : q_Ci X d 88 [.int a0] M K := by
  show q_Ex X d 88 0 [some (.int a0)] [] M (q_ri K)
  refine q_gets (pc := 0) k88_0 (j := 0) (by decide) fs88_274 ?_
  refine q_iload_n (pc := 3) k88_3 rfl ?_
  refine q_invS (pc := 4) (As := [.int a0]) (st := [.ref 1000]) k88_4 lm88_165 os85 rfl rfl (q_cat rfl) (Nat.le_of_ble_eq_true rfl) hd h ?_
  rintro v M1 ⟨r2, rfl, h⟩
  show q_Ex X d 88 (4 + 3) [some (.int a0)] [.int r2, .ref 1000] M1 _
  refine q_raldv (pc := 7) (j := 0) (v := (q_rc X 0).2 (Int32.toNatClampNeg r2)) k88_7 (by decide) h.1 rfl ?_
  replace h := h.2
  exact q_ireturn (pc := 8) k88_8 rfl ⟨_, rfl, h⟩
set_option maxRecDepth 20000 in
theorem vc89 {X : Nat × (Nat → Int32)} {d : Nat} {M : q_M} {a0 a1 : Int32} {K : Int32 → q_M → Prop} (h : ((a1 < 0) → (K 0 M)) ∧ ((¬ a1 < 0) → (((a1 < 3) → (vp_in a1 3 ∧ (¬ ((q_rc X 2).2 (Int32.toNatClampNeg a1)) = 0 ∧ (K ((a0 / ((q_rc X 2).2 (Int32.toNatClampNeg a1))) - (a0 / ((q_rc X 2).2 (Int32.toNatClampNeg a1))) / 10 * 10) M)))) ∧ ((¬ a1 < 3) → (K 0 M))))) : q_Ci X d 89 [.int a0, .int a1] M K := by
  show q_Ex X d 89 0 [some (.int a0), some (.int a1)] [] M (q_ri K)
  refine q_iload_n (pc := 0) k89_0 rfl ?_
  refine q_if_lt (pc := 1) 12 k89_1 (by decide) (fun g1 => ?_) (fun g1 => ?_)
  · replace h := h.1 g1
    refine q_iconst (pc := 12) (v := 0) k89_12 (by decide) ?_
    refine q_goto (pc := 13) 26 k89_13 (by decide) ?_
    exact q_ireturn (pc := 26) k89_26 rfl ⟨_, rfl, h⟩
  · replace h := h.2 g1
    refine q_iload_n (pc := 4) k89_4 rfl ?_
    refine q_gets (pc := 5) k89_5 (j := 2) (by decide) fs89_310 ?_
    refine q_rlen (pc := 8) (j := 2) (v := 3) k89_8 (by decide) rfl ?_
    refine q_icmp_lt (pc := 9) 16 k89_9 (by decide) (fun g2 => ?_) (fun g2 => ?_)
    · replace h := h.1 g2
      refine q_iload_n (pc := 16) k89_16 rfl ?_
      refine q_gets (pc := 17) k89_17 (j := 2) (by decide) fs89_310 ?_
      refine q_iload_n (pc := 20) k89_20 rfl ?_
      refine q_raldv (pc := 21) (j := 2) (v := (q_rc X 2).2 (Int32.toNatClampNeg a1)) k89_21 (by decide) h.1 rfl ?_
      replace h := h.2
      refine q_idiv (pc := 22) k89_22 h.1 ?_
      replace h := h.2
      refine q_bipush (pc := 23) (v := 10) k89_23 (by decide) ?_
      refine q_irem (pc := 25) k89_25 (by decide) ?_
      exact q_ireturn (pc := 26) k89_26 rfl ⟨_, rfl, h⟩
    · replace h := h.2 g2
      refine q_iconst (pc := 12) (v := 0) k89_12 (by decide) ?_
      refine q_goto (pc := 13) 26 k89_13 (by decide) ?_
      exact q_ireturn (pc := 26) k89_26 rfl ⟨_, rfl, h⟩
set_option maxRecDepth 20000 in
theorem vc90 {X : Nat × (Nat → Int32)} {d : Nat} {M : q_M} {a0 a1 : Int32} {K : Int32 → q_M → Prop} (h : ((a1 < 0) → (K 0 M)) ∧ ((¬ a1 < 0) → (((30 ≤ a1) → (K 0 M)) ∧ ((¬ 30 ≤ a1) → (((((a0 >>> (a1 &&& 31)) &&& 1) = 0) → (K 0 M)) ∧ ((¬ ((a0 >>> (a1 &&& 31)) &&& 1) = 0) → (K 1 M))))))) : q_Ci X d 90 [.int a0, .int a1] M K := by
  show q_Ex X d 90 0 [some (.int a0), some (.int a1)] [] M (q_ri K)
  refine q_iload_n (pc := 0) k90_0 rfl ?_
  refine q_if_lt (pc := 1) 22 k90_1 (by decide) (fun g1 => ?_) (fun g1 => ?_)
  · replace h := h.1 g1
    refine q_iconst (pc := 22) (v := 0) k90_22 (by decide) ?_
    exact q_zreturn (pc := 23) k90_23 rfl (by decide) ⟨_, rfl, h⟩
  · replace h := h.2 g1
    refine q_iload_n (pc := 4) k90_4 rfl ?_
    refine q_bipush (pc := 5) (v := 30) k90_5 (by decide) ?_
    refine q_icmp_ge (pc := 7) 22 k90_7 (by decide) (fun g2 => ?_) (fun g2 => ?_)
    · replace h := h.1 g2
      refine q_iconst (pc := 22) (v := 0) k90_22 (by decide) ?_
      exact q_zreturn (pc := 23) k90_23 rfl (by decide) ⟨_, rfl, h⟩
    · replace h := h.2 g2
      refine q_iload_n (pc := 10) k90_10 rfl ?_
      refine q_iload_n (pc := 11) k90_11 rfl ?_
      refine q_ishr (pc := 12) k90_12 ?_
      refine q_iconst (pc := 13) (v := 1) k90_13 (by decide) ?_
      refine q_iand (pc := 14) k90_14 ?_
      refine q_if_eq (pc := 15) 22 k90_15 (by decide) (fun g3 => ?_) (fun g3 => ?_)
      · replace h := h.1 g3
        refine q_iconst (pc := 22) (v := 0) k90_22 (by decide) ?_
        exact q_zreturn (pc := 23) k90_23 rfl (by decide) ⟨_, rfl, h⟩
      · replace h := h.2 g3
        refine q_iconst (pc := 18) (v := 1) k90_18 (by decide) ?_
        refine q_goto (pc := 19) 23 k90_19 (by decide) ?_
        exact q_zreturn (pc := 23) k90_23 rfl (by decide) ⟨_, rfl, h⟩
set_option maxRecDepth 20000 in
theorem vc91 {X : Nat × (Nat → Int32)} {d : Nat} {M : q_M} {a1 : Int32} {K : Int32 → q_M → Prop} (h : vp_in (-a1) 7 ∧ (vp_in (-a1) 7 ∧ (K a1 (q_set M 98 (Int32.toNatClampNeg (-a1)) ((M 98 (Int32.toNatClampNeg (-a1))) + 1))))) : q_Ci X d 91 [.ref 97, .int a1] M K := by
  show q_Ex X d 91 0 [some (.ref 97), some (.int a1)] [] M (q_ri K)
  refine q_aload_n (pc := 0) k91_0 rfl ?_
  refine q_getR (pc := 1) k91_1 fg91_7 rfl rfl ?_
  refine q_iload_n (pc := 4) k91_4 rfl ?_
  refine q_ineg (pc := 5) k91_5 ?_
  refine q_dup2 (pc := 6) k91_6 rfl rfl ?_
  refine q_ialdv (pc := 7) (v := M 98 (Int32.toNatClampNeg (-a1))) k91_7 rfl h.1 rfl ?_
  replace h := h.2
  refine q_iconst (pc := 8) (v := 1) k91_8 (by decide) ?_
  refine q_iadd (pc := 9) k91_9 ?_
  refine q_iastv (pc := 10) (k := (Int32.toNatClampNeg (-a1))) k91_10 rfl h.1 rfl ?_
  replace h := h.2
  refine q_iload_n (pc := 11) k91_11 rfl ?_
  exact q_ireturn (pc := 12) k91_12 rfl ⟨_, rfl, h⟩
set_option maxRecDepth 20000 in
theorem vc92 {X : Nat × (Nat → Int32)} {d : Nat} {M : q_M} {a0 a1 : Int32} {K : Int32 → q_M → Prop} (h : ((a0 < 0) → (K 0 M)) ∧ ((¬ a0 < 0) → (((a1 ≤ a0) → (K 0 M)) ∧ ((¬ a1 ≤ a0) → (K 1 M))))) : q_Ci X d 92 [.int a0, .int a1] M K := by
  show q_Ex X d 92 0 [some (.int a0), some (.int a1)] [] M (q_ri K)
  refine q_iload_n (pc := 0) k92_0 rfl ?_
  refine q_if_lt (pc := 1) 13 k92_1 (by decide) (fun g1 => ?_) (fun g1 => ?_)
  · replace h := h.1 g1
    refine q_iconst (pc := 13) (v := 0) k92_13 (by decide) ?_
    exact q_zreturn (pc := 14) k92_14 rfl (by decide) ⟨_, rfl, h⟩
  · replace h := h.2 g1
    refine q_iload_n (pc := 4) k92_4 rfl ?_
    refine q_iload_n (pc := 5) k92_5 rfl ?_
    refine q_icmp_ge (pc := 6) 13 k92_6 (by decide) (fun g2 => ?_) (fun g2 => ?_)
    · replace h := h.1 g2
      refine q_iconst (pc := 13) (v := 0) k92_13 (by decide) ?_
      exact q_zreturn (pc := 14) k92_14 rfl (by decide) ⟨_, rfl, h⟩
    · replace h := h.2 g2
      refine q_iconst (pc := 9) (v := 1) k92_9 (by decide) ?_
      refine q_goto (pc := 10) 14 k92_10 (by decide) ?_
      exact q_zreturn (pc := 14) k92_14 rfl (by decide) ⟨_, rfl, h⟩
set_option maxRecDepth 20000 in
theorem vc93 {X : Nat × (Nat → Int32)} {d : Nat} {M : q_M} {a0 a1 a2 : Int32} {K : Int32 → q_M → Prop} (h : ((a1 ≤ a0) → (((a0 ≤ a2) → (K 0 M)) ∧ ((¬ a0 ≤ a2) → (K (-6) M)))) ∧ ((¬ a1 ≤ a0) → (K (-4) M))) : q_Ci X d 93 [.int a0, .int a1, .int a2] M K := by
  show q_Ex X d 93 0 [some (.int a0), some (.int a1), some (.int a2)] [] M (q_ri K)
  refine q_iload_n (pc := 0) k93_0 rfl ?_
  refine q_iload_n (pc := 1) k93_1 rfl ?_
  refine q_icmp_ge (pc := 2) 10 k93_2 (by decide) (fun g1 => ?_) (fun g1 => ?_)
  · replace h := h.1 g1
    refine q_iload_n (pc := 10) k93_10 rfl ?_
    refine q_iload_n (pc := 11) k93_11 rfl ?_
    refine q_icmp_le (pc := 12) 20 k93_12 (by decide) (fun g2 => ?_) (fun g2 => ?_)
    · replace h := h.1 g2
      refine q_iconst (pc := 20) (v := 0) k93_20 (by decide) ?_
      exact q_ireturn (pc := 21) k93_21 rfl ⟨_, rfl, h⟩
    · replace h := h.2 g2
      refine q_bipush (pc := 15) (v := (-6)) k93_15 (by decide) ?_
      refine q_goto (pc := 17) 21 k93_17 (by decide) ?_
      exact q_ireturn (pc := 21) k93_21 rfl ⟨_, rfl, h⟩
  · replace h := h.2 g1
    refine q_bipush (pc := 5) (v := (-4)) k93_5 (by decide) ?_
    refine q_goto (pc := 7) 21 k93_7 (by decide) ?_
    exact q_ireturn (pc := 21) k93_21 rfl ⟨_, rfl, h⟩
set_option maxRecDepth 20000 in
theorem vc95 {X : Nat × (Nat → Int32)} {d : Nat} {M : q_M} {K : Int32 → q_M → Prop} (h : K ((M 99 0) * (M 99 1)) M) : q_Ci X d 95 [.ref 97] M K := by
  show q_Ex X d 95 0 [some (.ref 97)] [] M (q_ri K)
  refine q_aload_n (pc := 0) k95_0 rfl ?_
  refine q_getR (pc := 1) k95_1 fg95_13 rfl rfl ?_
  refine q_iconst (pc := 4) (v := 0) k95_4 (by decide) ?_
  refine q_ialdv (pc := 5) (v := M 99 0) k95_5 rfl (q_vin (by decide)) rfl ?_
  refine q_aload_n (pc := 6) k95_6 rfl ?_
  refine q_getR (pc := 7) k95_7 fg95_13 rfl rfl ?_
  refine q_iconst (pc := 10) (v := 1) k95_10 (by decide) ?_
  refine q_ialdv (pc := 11) (v := M 99 1) k95_11 rfl (q_vin (by decide)) rfl ?_
  refine q_imul (pc := 12) k95_12 ?_
  exact q_ireturn (pc := 13) k95_13 rfl ⟨_, rfl, h⟩
set_option maxRecDepth 20000 in
theorem vc96 {X : Nat × (Nat → Int32)} {d : Nat} (hd : 0 < d) {M : q_M} {a1 : Int32} {K : Int32 → q_M → Prop} (h : q_Ci X (d - 1) 95 [.ref 97] M (fun r2 M1 => q_Ci X (d - 1) 92 [.int a1, .int r2] M1 (fun r4 M3 => (r4 = 0 ∨ r4 = 1) ∧ K r4 M3))) : q_Ci X d 96 [.ref 97, .int a1] M K := by
  show q_Ex X d 96 0 [some (.ref 97), some (.int a1)] [] M (q_ri K)
  refine q_iload_n (pc := 0) k96_0 rfl ?_
  refine q_aload_n (pc := 1) k96_1 rfl ?_
  refine q_invV (pc := 2) (As := []) (st := [.int a1]) k96_2 lm96_64 ov95 rfl rfl rfl (q_cat rfl) (Nat.le_of_ble_eq_true rfl) hd h ?_
  rintro v M1 ⟨r2, rfl, h⟩
  show q_Ex X d 96 (2 + 3) [some (.ref 97), some (.int a1)] [.int r2, .int a1] M1 _
  refine q_invS (pc := 5) (As := [.int a1, .int r2]) (st := []) k96_5 lm96_68 os92 rfl rfl (q_cat rfl) (Nat.le_of_ble_eq_true rfl) hd h ?_
  rintro v M3 ⟨r4, rfl, h⟩
  show q_Ex X d 96 (5 + 3) [some (.ref 97), some (.int a1)] [.int r4] M3 _
  exact q_zreturn (pc := 8) k96_8 rfl h.1 ⟨_, rfl, h.2⟩
set_option maxRecDepth 20000 in
theorem vc97 {X : Nat × (Nat → Int32)} {d : Nat} (hd : 0 < d) {M : q_M} {a1 : Int32} {K : Int32 → q_M → Prop} (h : q_Ci X (d - 1) 92 [.int a1, .int (M 99 2)] M (fun r2 M1 => (r2 = 0 ∨ r2 = 1) ∧ K r2 M1)) : q_Ci X d 97 [.ref 97, .int a1] M K := by
  show q_Ex X d 97 0 [some (.ref 97), some (.int a1)] [] M (q_ri K)
  refine q_iload_n (pc := 0) k97_0 rfl ?_
  refine q_aload_n (pc := 1) k97_1 rfl ?_
  refine q_getR (pc := 2) k97_2 fg97_13 rfl rfl ?_
  refine q_iconst (pc := 5) (v := 2) k97_5 (by decide) ?_
  refine q_ialdv (pc := 6) (v := M 99 2) k97_6 rfl (q_vin (by decide)) rfl ?_
  refine q_invS (pc := 7) (As := [.int a1, .int (M 99 2)]) (st := []) k97_7 lm97_68 os92 rfl rfl (q_cat rfl) (Nat.le_of_ble_eq_true rfl) hd h ?_
  rintro v M1 ⟨r2, rfl, h⟩
  show q_Ex X d 97 (7 + 3) [some (.ref 97), some (.int a1)] [.int r2] M1 _
  exact q_zreturn (pc := 10) k97_10 rfl h.1 ⟨_, rfl, h.2⟩
set_option maxRecDepth 20000 in
theorem vc98 {X : Nat × (Nat → Int32)} {d : Nat} {M : q_M} {a1 : Int32} {K : Int32 → q_M → Prop} (h : vp_in ((45 : Int32) + ((3 : Int32) * a1)) 135 ∧ (K (M 99 (Int32.toNatClampNeg ((45 : Int32) + ((3 : Int32) * a1)))) M)) : q_Ci X d 98 [.ref 97, .int a1] M K := by
  show q_Ex X d 98 0 [some (.ref 97), some (.int a1)] [] M (q_ri K)
  refine q_aload_n (pc := 0) k98_0 rfl ?_
  refine q_getR (pc := 1) k98_1 fg98_13 rfl rfl ?_
  refine q_bipush (pc := 4) (v := 45) k98_4 (by decide) ?_
  refine q_iconst (pc := 6) (v := 3) k98_6 (by decide) ?_
  refine q_iload_n (pc := 7) k98_7 rfl ?_
  refine q_imul (pc := 8) k98_8 ?_
  refine q_iadd (pc := 9) k98_9 ?_
  refine q_ialdv (pc := 10) (v := M 99 (Int32.toNatClampNeg ((45 : Int32) + ((3 : Int32) * a1)))) k98_10 rfl h.1 rfl ?_
  replace h := h.2
  exact q_ireturn (pc := 11) k98_11 rfl ⟨_, rfl, h⟩
set_option maxRecDepth 20000 in
theorem vc99 {X : Nat × (Nat → Int32)} {d : Nat} {M : q_M} {a1 : Int32} {K : Int32 → q_M → Prop} (h : vp_in (((45 : Int32) + ((3 : Int32) * a1)) + 1) 135 ∧ (K (M 99 (Int32.toNatClampNeg (((45 : Int32) + ((3 : Int32) * a1)) + 1))) M)) : q_Ci X d 99 [.ref 97, .int a1] M K := by
  show q_Ex X d 99 0 [some (.ref 97), some (.int a1)] [] M (q_ri K)
  refine q_aload_n (pc := 0) k99_0 rfl ?_
  refine q_getR (pc := 1) k99_1 fg99_13 rfl rfl ?_
  refine q_bipush (pc := 4) (v := 45) k99_4 (by decide) ?_
  refine q_iconst (pc := 6) (v := 3) k99_6 (by decide) ?_
  refine q_iload_n (pc := 7) k99_7 rfl ?_
  refine q_imul (pc := 8) k99_8 ?_
  refine q_iadd (pc := 9) k99_9 ?_
  refine q_iconst (pc := 10) (v := 1) k99_10 (by decide) ?_
  refine q_iadd (pc := 11) k99_11 ?_
  refine q_ialdv (pc := 12) (v := M 99 (Int32.toNatClampNeg (((45 : Int32) + ((3 : Int32) * a1)) + 1))) k99_12 rfl h.1 rfl ?_
  replace h := h.2
  exact q_ireturn (pc := 13) k99_13 rfl ⟨_, rfl, h⟩
set_option maxRecDepth 20000 in
theorem vc100 {X : Nat × (Nat → Int32)} {d : Nat} {M : q_M} {a1 : Int32} {K : Int32 → q_M → Prop} (h : vp_in (((45 : Int32) + ((3 : Int32) * a1)) + 2) 135 ∧ (K (M 99 (Int32.toNatClampNeg (((45 : Int32) + ((3 : Int32) * a1)) + 2))) M)) : q_Ci X d 100 [.ref 97, .int a1] M K := by
  show q_Ex X d 100 0 [some (.ref 97), some (.int a1)] [] M (q_ri K)
  refine q_aload_n (pc := 0) k100_0 rfl ?_
  refine q_getR (pc := 1) k100_1 fg100_13 rfl rfl ?_
  refine q_bipush (pc := 4) (v := 45) k100_4 (by decide) ?_
  refine q_iconst (pc := 6) (v := 3) k100_6 (by decide) ?_
  refine q_iload_n (pc := 7) k100_7 rfl ?_
  refine q_imul (pc := 8) k100_8 ?_
  refine q_iadd (pc := 9) k100_9 ?_
  refine q_iconst (pc := 10) (v := 2) k100_10 (by decide) ?_
  refine q_iadd (pc := 11) k100_11 ?_
  refine q_ialdv (pc := 12) (v := M 99 (Int32.toNatClampNeg (((45 : Int32) + ((3 : Int32) * a1)) + 2))) k100_12 rfl h.1 rfl ?_
  replace h := h.2
  exact q_ireturn (pc := 13) k100_13 rfl ⟨_, rfl, h⟩
set_option maxRecDepth 20000 in
theorem vc101 {X : Nat × (Nat → Int32)} {d : Nat} (hd : 0 < d) {M : q_M} {a1 : Int32} {K : Int32 → q_M → Prop} (h : q_Ci X (d - 1) 93 [.int a1, .int 0, .int 255] M (fun r2 M1 => ((¬ r2 = 0) → (q_Ci X (d - 1) 91 [.ref 97, .int r2] M1 (fun r5 M4 => K r5 M4))) ∧ ((r2 = 0) → (((¬ (M1 97 6) = 48) → (vp_in (M1 97 6) 48 ∧ (K ((M1 97 6) + 1) (q_set (q_set M1 102 (Int32.toNatClampNeg (M1 97 6)) a1) 97 6 ((M1 97 6) + 1))))) ∧ (((M1 97 6) = 48) → (q_Ci X (d - 1) 91 [.ref 97, .int (-6)] M1 (fun r8 M7 => K r8 M7))))))) : q_Ci X d 101 [.ref 97, .int a1] M K := by
  show q_Ex X d 101 0 [some (.ref 97), some (.int a1), none] [] M (q_ri K)
  refine q_iload_n (pc := 0) k101_0 rfl ?_
  refine q_iconst (pc := 1) (v := 0) k101_1 (by decide) ?_
  refine q_sipush (pc := 2) (v := 255) k101_2 (by decide) ?_
  refine q_invS (pc := 5) (As := [.int a1, .int 0, .int 255]) (st := []) k101_5 lm101_72 os93 rfl rfl (q_cat rfl) (Nat.le_of_ble_eq_true rfl) hd h ?_
  rintro v M1 ⟨r2, rfl, h⟩
  show q_Ex X d 101 (5 + 3) [some (.ref 97), some (.int a1), none] [.int r2] M1 _
  refine q_istore_n (pc := 8) [some (.ref 97), some (.int a1), some (.int r2)] k101_8 rfl (by decide) rfl ?_
  refine q_iload_n (pc := 9) k101_9 rfl ?_
  refine q_if_ne (pc := 10) 25 k101_10 (by decide) (fun g3 => ?_) (fun g3 => ?_)
  · replace h := h.1 g3
    refine q_iload_n (pc := 25) k101_25 rfl ?_
    refine q_if_eq (pc := 26) 35 k101_26 (by decide) (fun g => absurd g g3) (fun _ => ?_)
    refine q_aload_n (pc := 29) k101_29 rfl ?_
    refine q_iload_n (pc := 30) k101_30 rfl ?_
    refine q_invV (pc := 31) (As := [.int r2]) (st := []) k101_31 lm101_80 ov91 rfl rfl rfl (q_cat rfl) (Nat.le_of_ble_eq_true rfl) hd h ?_
    rintro v M4 ⟨r5, rfl, h⟩
    show q_Ex X d 101 (31 + 3) [some (.ref 97), some (.int a1), some (.int r2)] [.int r5] M4 _
    exact q_ireturn (pc := 34) k101_34 rfl ⟨_, rfl, h⟩
  · replace h := h.2 g3
    refine q_aload_n (pc := 13) k101_13 rfl ?_
    refine q_getIv (pc := 14) (v := M1 97 6) k101_14 fg101_76 rfl rfl rfl ?_
    refine q_bipush (pc := 17) (v := 48) k101_17 (by decide) ?_
    refine q_icmp_ne (pc := 19) 25 k101_19 (by decide) (fun g6 => ?_) (fun g6 => ?_)
    · replace h := h.1 g6
      refine q_iload_n (pc := 25) k101_25 rfl ?_
      refine q_if_eq (pc := 26) 35 k101_26 (by decide) (fun _ => ?_) (fun g => absurd g3 g)
      refine q_aload_n (pc := 35) k101_35 rfl ?_
      refine q_getR (pc := 36) k101_36 fg101_22 rfl rfl ?_
      refine q_aload_n (pc := 39) k101_39 rfl ?_
      refine q_getIv (pc := 40) (v := M1 97 6) k101_40 fg101_76 rfl rfl rfl ?_
      refine q_iload_n (pc := 43) k101_43 rfl ?_
      refine q_iastv (pc := 44) (k := (Int32.toNatClampNeg (M1 97 6))) k101_44 rfl h.1 rfl ?_
      replace h := h.2
      refine q_aload_n (pc := 45) k101_45 rfl ?_
      refine q_dup (pc := 46) k101_46 rfl ?_
      refine q_getIv (pc := 47) (v := M1 97 6) k101_47 fg101_76 rfl rfl rfl ?_
      refine q_iconst (pc := 50) (v := 1) k101_50 (by decide) ?_
      refine q_iadd (pc := 51) k101_51 ?_
      refine q_putI (pc := 52) k101_52 fp101_76 rfl rfl ?_
      refine q_aload_n (pc := 55) k101_55 rfl ?_
      refine q_getIv (pc := 56) (v := (M1 97 6) + 1) k101_56 fg101_76 rfl rfl rfl ?_
      exact q_ireturn (pc := 59) k101_59 rfl ⟨_, rfl, h⟩
    · replace h := h.2 g6
      refine q_bipush (pc := 22) (v := (-6)) k101_22 (by decide) ?_
      refine q_istore_n (pc := 24) [some (.ref 97), some (.int a1), some (.int (-6))] k101_24 rfl (by decide) rfl ?_
      refine q_iload_n (pc := 25) k101_25 rfl ?_
      refine q_if_eq (pc := 26) 35 k101_26 (by decide) (fun g => absurd g (by decide)) (fun _ => ?_)
      refine q_aload_n (pc := 29) k101_29 rfl ?_
      refine q_iload_n (pc := 30) k101_30 rfl ?_
      refine q_invV (pc := 31) (As := [.int (-6)]) (st := []) k101_31 lm101_80 ov91 rfl rfl rfl (q_cat rfl) (Nat.le_of_ble_eq_true rfl) hd h ?_
      rintro v M7 ⟨r8, rfl, h⟩
      show q_Ex X d 101 (31 + 3) [some (.ref 97), some (.int a1), some (.int (-6))] [.int r8] M7 _
      exact q_ireturn (pc := 34) k101_34 rfl ⟨_, rfl, h⟩
set_option maxRecDepth 20000 in
theorem vc102 {X : Nat × (Nat → Int32)} {d : Nat} {M : q_M} {a1 a2 : Int32} {K : Int32 → q_M → Prop} (h : vp_in ((45 : Int32) + ((3 : Int32) * a2)) 135 ∧ (vp_in (((45 : Int32) + ((3 : Int32) * a2)) + 1) 135 ∧ (vp_in (((45 : Int32) + ((3 : Int32) * a2)) + 2) 135 ∧ (((¬ a1 = 46) → (((¬ a1 = 35) → (((a1 < 49) → (((a1 < 97) → (((a1 < 120) → (K 0 (q_set (q_set (q_set M 101 (Int32.toNatClampNeg ((45 : Int32) + ((3 : Int32) * a2))) 0) 101 (Int32.toNatClampNeg (((45 : Int32) + ((3 : Int32) * a2)) + 1)) 0) 101 (Int32.toNatClampNeg (((45 : Int32) + ((3 : Int32) * a2)) + 2)) (-9)))) ∧ ((¬ a1 < 120) → (((a1 ≤ 122) → (((¬ (((M 97 8) >>> ((a1 - 120) &&& 31)) &&& 1) = 1) → (vp_in ((45 : Int32) + ((3 : Int32) * a2)) 135 ∧ (vp_in (((45 : Int32) + ((3 : Int32) * a2)) + 2) 135 ∧ (K 1 (q_set (q_set (q_set (q_set (q_set (q_set M 101 (Int32.toNatClampNeg ((45 : Int32) + ((3 : Int32) * a2))) 0) 101 (Int32.toNatClampNeg (((45 : Int32) + ((3 : Int32) * a2)) + 1)) 0) 101 (Int32.toNatClampNeg (((45 : Int32) + ((3 : Int32) * a2)) + 2)) (-9)) 101 (Int32.toNatClampNeg ((45 : Int32) + ((3 : Int32) * a2))) 3) 101 (Int32.toNatClampNeg (((45 : Int32) + ((3 : Int32) * a2)) + 2)) (a1 - 120)) 97 8 ((M 97 8) ||| ((1 : Int32) <<< ((a1 - 120) &&& 31)))))))) ∧ (((((M 97 8) >>> ((a1 - 120) &&& 31)) &&& 1) = 1) → (K 0 (q_set (q_set (q_set M 101 (Int32.toNatClampNeg ((45 : Int32) + ((3 : Int32) * a2))) 0) 101 (Int32.toNatClampNeg (((45 : Int32) + ((3 : Int32) * a2)) + 1)) 0) 101 (Int32.toNatClampNeg (((45 : Int32) + ((3 : Int32) * a2)) + 2)) (-9)))))) ∧ ((¬ a1 ≤ 122) → (K 0 (q_set (q_set (q_set M 101 (Int32.toNatClampNeg ((45 : Int32) + ((3 : Int32) * a2))) 0) 101 (Int32.toNatClampNeg (((45 : Int32) + ((3 : Int32) * a2)) + 1)) 0) 101 (Int32.toNatClampNeg (((45 : Int32) + ((3 : Int32) * a2)) + 2)) (-9)))))))) ∧ ((¬ a1 < 97) → (((99 < a1) → (((a1 < 120) → (K 0 (q_set (q_set (q_set M 101 (Int32.toNatClampNeg ((45 : Int32) + ((3 : Int32) * a2))) 0) 101 (Int32.toNatClampNeg (((45 : Int32) + ((3 : Int32) * a2)) + 1)) 0) 101 (Int32.toNatClampNeg (((45 : Int32) + ((3 : Int32) * a2)) + 2)) (-9)))) ∧ ((¬ a1 < 120) → (((a1 ≤ 122) → (((¬ (((M 97 8) >>> ((a1 - 120) &&& 31)) &&& 1) = 1) → (vp_in ((45 : Int32) + ((3 : Int32) * a2)) 135 ∧ (vp_in (((45 : Int32) + ((3 : Int32) * a2)) + 2) 135 ∧ (K 1 (q_set (q_set (q_set (q_set (q_set (q_set M 101 (Int32.toNatClampNeg ((45 : Int32) + ((3 : Int32) * a2))) 0) 101 (Int32.toNatClampNeg (((45 : Int32) + ((3 : Int32) * a2)) + 1)) 0) 101 (Int32.toNatClampNeg (((45 : Int32) + ((3 : Int32) * a2)) + 2)) (-9)) 101 (Int32.toNatClampNeg ((45 : Int32) + ((3 : Int32) * a2))) 3) 101 (Int32.toNatClampNeg (((45 : Int32) + ((3 : Int32) * a2)) + 2)) (a1 - 120)) 97 8 ((M 97 8) ||| ((1 : Int32) <<< ((a1 - 120) &&& 31)))))))) ∧ (((((M 97 8) >>> ((a1 - 120) &&& 31)) &&& 1) = 1) → (K 0 (q_set (q_set (q_set M 101 (Int32.toNatClampNeg ((45 : Int32) + ((3 : Int32) * a2))) 0) 101 (Int32.toNatClampNeg (((45 : Int32) + ((3 : Int32) * a2)) + 1)) 0) 101 (Int32.toNatClampNeg (((45 : Int32) + ((3 : Int32) * a2)) + 2)) (-9)))))) ∧ ((¬ a1 ≤ 122) → (K 0 (q_set (q_set (q_set M 101 (Int32.toNatClampNeg ((45 : Int32) + ((3 : Int32) * a2))) 0) 101 (Int32.toNatClampNeg (((45 : Int32) + ((3 : Int32) * a2)) + 1)) 0) 101 (Int32.toNatClampNeg (((45 : Int32) + ((3 : Int32) * a2)) + 2)) (-9)))))))) ∧ ((¬ 99 < a1) → (((¬ (((M 97 7) >>> ((a1 - 97) &&& 31)) &&& 1) = 1) → (vp_in ((45 : Int32) + ((3 : Int32) * a2)) 135 ∧ (vp_in (((45 : Int32) + ((3 : Int32) * a2)) + 2) 135 ∧ (K 1 (q_set (q_set (q_set (q_set (q_set (q_set M 101 (Int32.toNatClampNeg ((45 : Int32) + ((3 : Int32) * a2))) 0) 101 (Int32.toNatClampNeg (((45 : Int32) + ((3 : Int32) * a2)) + 1)) 0) 101 (Int32.toNatClampNeg (((45 : Int32) + ((3 : Int32) * a2)) + 2)) (-9)) 101 (Int32.toNatClampNeg ((45 : Int32) + ((3 : Int32) * a2))) 2) 101 (Int32.toNatClampNeg (((45 : Int32) + ((3 : Int32) * a2)) + 2)) (a1 - 97)) 97 7 ((M 97 7) ||| ((1 : Int32) <<< ((a1 - 97) &&& 31)))))))) ∧ (((((M 97 7) >>> ((a1 - 97) &&& 31)) &&& 1) = 1) → (K 0 (q_set (q_set (q_set M 101 (Int32.toNatClampNeg ((45 : Int32) + ((3 : Int32) * a2))) 0) 101 (Int32.toNatClampNeg (((45 : Int32) + ((3 : Int32) * a2)) + 1)) 0) 101 (Int32.toNatClampNeg (((45 : Int32) + ((3 : Int32) * a2)) + 2)) (-9)))))))))) ∧ ((¬ a1 < 49) → (((57 < a1) → (((a1 < 97) → (((a1 < 120) → (K 0 (q_set (q_set (q_set M 101 (Int32.toNatClampNeg ((45 : Int32) + ((3 : Int32) * a2))) 0) 101 (Int32.toNatClampNeg (((45 : Int32) + ((3 : Int32) * a2)) + 1)) 0) 101 (Int32.toNatClampNeg (((45 : Int32) + ((3 : Int32) * a2)) + 2)) (-9)))) ∧ ((¬ a1 < 120) → (((a1 ≤ 122) → (((¬ (((M 97 8) >>> ((a1 - 120) &&& 31)) &&& 1) = 1) → (vp_in ((45 : Int32) + ((3 : Int32) * a2)) 135 ∧ (vp_in (((45 : Int32) + ((3 : Int32) * a2)) + 2) 135 ∧ (K 1 (q_set (q_set (q_set (q_set (q_set (q_set M 101 (Int32.toNatClampNeg ((45 : Int32) + ((3 : Int32) * a2))) 0) 101 (Int32.toNatClampNeg (((45 : Int32) + ((3 : Int32) * a2)) + 1)) 0) 101 (Int32.toNatClampNeg (((45 : Int32) + ((3 : Int32) * a2)) + 2)) (-9)) 101 (Int32.toNatClampNeg ((45 : Int32) + ((3 : Int32) * a2))) 3) 101 (Int32.toNatClampNeg (((45 : Int32) + ((3 : Int32) * a2)) + 2)) (a1 - 120)) 97 8 ((M 97 8) ||| ((1 : Int32) <<< ((a1 - 120) &&& 31)))))))) ∧ (((((M 97 8) >>> ((a1 - 120) &&& 31)) &&& 1) = 1) → (K 0 (q_set (q_set (q_set M 101 (Int32.toNatClampNeg ((45 : Int32) + ((3 : Int32) * a2))) 0) 101 (Int32.toNatClampNeg (((45 : Int32) + ((3 : Int32) * a2)) + 1)) 0) 101 (Int32.toNatClampNeg (((45 : Int32) + ((3 : Int32) * a2)) + 2)) (-9)))))) ∧ ((¬ a1 ≤ 122) → (K 0 (q_set (q_set (q_set M 101 (Int32.toNatClampNeg ((45 : Int32) + ((3 : Int32) * a2))) 0) 101 (Int32.toNatClampNeg (((45 : Int32) + ((3 : Int32) * a2)) + 1)) 0) 101 (Int32.toNatClampNeg (((45 : Int32) + ((3 : Int32) * a2)) + 2)) (-9)))))))) ∧ ((¬ a1 < 97) → (((99 < a1) → (((a1 < 120) → (K 0 (q_set (q_set (q_set M 101 (Int32.toNatClampNeg ((45 : Int32) + ((3 : Int32) * a2))) 0) 101 (Int32.toNatClampNeg (((45 : Int32) + ((3 : Int32) * a2)) + 1)) 0) 101 (Int32.toNatClampNeg (((45 : Int32) + ((3 : Int32) * a2)) + 2)) (-9)))) ∧ ((¬ a1 < 120) → (((a1 ≤ 122) → (((¬ (((M 97 8) >>> ((a1 - 120) &&& 31)) &&& 1) = 1) → (vp_in ((45 : Int32) + ((3 : Int32) * a2)) 135 ∧ (vp_in (((45 : Int32) + ((3 : Int32) * a2)) + 2) 135 ∧ (K 1 (q_set (q_set (q_set (q_set (q_set (q_set M 101 (Int32.toNatClampNeg ((45 : Int32) + ((3 : Int32) * a2))) 0) 101 (Int32.toNatClampNeg (((45 : Int32) + ((3 : Int32) * a2)) + 1)) 0) 101 (Int32.toNatClampNeg (((45 : Int32) + ((3 : Int32) * a2)) + 2)) (-9)) 101 (Int32.toNatClampNeg ((45 : Int32) + ((3 : Int32) * a2))) 3) 101 (Int32.toNatClampNeg (((45 : Int32) + ((3 : Int32) * a2)) + 2)) (a1 - 120)) 97 8 ((M 97 8) ||| ((1 : Int32) <<< ((a1 - 120) &&& 31)))))))) ∧ (((((M 97 8) >>> ((a1 - 120) &&& 31)) &&& 1) = 1) → (K 0 (q_set (q_set (q_set M 101 (Int32.toNatClampNeg ((45 : Int32) + ((3 : Int32) * a2))) 0) 101 (Int32.toNatClampNeg (((45 : Int32) + ((3 : Int32) * a2)) + 1)) 0) 101 (Int32.toNatClampNeg (((45 : Int32) + ((3 : Int32) * a2)) + 2)) (-9)))))) ∧ ((¬ a1 ≤ 122) → (K 0 (q_set (q_set (q_set M 101 (Int32.toNatClampNeg ((45 : Int32) + ((3 : Int32) * a2))) 0) 101 (Int32.toNatClampNeg (((45 : Int32) + ((3 : Int32) * a2)) + 1)) 0) 101 (Int32.toNatClampNeg (((45 : Int32) + ((3 : Int32) * a2)) + 2)) (-9)))))))) ∧ ((¬ 99 < a1) → (((¬ (((M 97 7) >>> ((a1 - 97) &&& 31)) &&& 1) = 1) → (vp_in ((45 : Int32) + ((3 : Int32) * a2)) 135 ∧ (vp_in (((45 : Int32) + ((3 : Int32) * a2)) + 2) 135 ∧ (K 1 (q_set (q_set (q_set (q_set (q_set (q_set M 101 (Int32.toNatClampNeg ((45 : Int32) + ((3 : Int32) * a2))) 0) 101 (Int32.toNatClampNeg (((45 : Int32) + ((3 : Int32) * a2)) + 1)) 0) 101 (Int32.toNatClampNeg (((45 : Int32) + ((3 : Int32) * a2)) + 2)) (-9)) 101 (Int32.toNatClampNeg ((45 : Int32) + ((3 : Int32) * a2))) 2) 101 (Int32.toNatClampNeg (((45 : Int32) + ((3 : Int32) * a2)) + 2)) (a1 - 97)) 97 7 ((M 97 7) ||| ((1 : Int32) <<< ((a1 - 97) &&& 31)))))))) ∧ (((((M 97 7) >>> ((a1 - 97) &&& 31)) &&& 1) = 1) → (K 0 (q_set (q_set (q_set M 101 (Int32.toNatClampNeg ((45 : Int32) + ((3 : Int32) * a2))) 0) 101 (Int32.toNatClampNeg (((45 : Int32) + ((3 : Int32) * a2)) + 1)) 0) 101 (Int32.toNatClampNeg (((45 : Int32) + ((3 : Int32) * a2)) + 2)) (-9)))))))))) ∧ ((¬ 57 < a1) → (vp_in (((45 : Int32) + ((3 : Int32) * a2)) + 1) 135 ∧ (K 1 (q_set (q_set (q_set (q_set M 101 (Int32.toNatClampNeg ((45 : Int32) + ((3 : Int32) * a2))) 0) 101 (Int32.toNatClampNeg (((45 : Int32) + ((3 : Int32) * a2)) + 1)) 0) 101 (Int32.toNatClampNeg (((45 : Int32) + ((3 : Int32) * a2)) + 2)) (-9)) 101 (Int32.toNatClampNeg (((45 : Int32) + ((3 : Int32) * a2)) + 1)) (a1 - 48))))))))) ∧ ((a1 = 35) → (vp_in ((45 : Int32) + ((3 : Int32) * a2)) 135 ∧ (K 1 (q_set (q_set (q_set (q_set M 101 (Int32.toNatClampNeg ((45 : Int32) + ((3 : Int32) * a2))) 0) 101 (Int32.toNatClampNeg (((45 : Int32) + ((3 : Int32) * a2)) + 1)) 0) 101 (Int32.toNatClampNeg (((45 : Int32) + ((3 : Int32) * a2)) + 2)) (-9)) 101 (Int32.toNatClampNeg ((45 : Int32) + ((3 : Int32) * a2))) 1)))))) ∧ ((a1 = 46) → (K 1 (q_set (q_set (q_set M 101 (Int32.toNatClampNeg ((45 : Int32) + ((3 : Int32) * a2))) 0) 101 (Int32.toNatClampNeg (((45 : Int32) + ((3 : Int32) * a2)) + 1)) 0) 101 (Int32.toNatClampNeg (((45 : Int32) + ((3 : Int32) * a2)) + 2)) (-9)))))))) : q_Ci X d 102 [.ref 97, .int a1, .int a2] M K := by
  show q_Ex X d 102 0 [some (.ref 97), some (.int a1), some (.int a2), none, none, none] [] M (q_ri K)
  refine q_bipush (pc := 0) (v := 45) k102_0 (by decide) ?_
  refine q_iconst (pc := 2) (v := 3) k102_2 (by decide) ?_
  refine q_iload_n (pc := 3) k102_3 rfl ?_
  refine q_imul (pc := 4) k102_4 ?_
  refine q_iadd (pc := 5) k102_5 ?_
  refine q_istore_n (pc := 6) [some (.ref 97), some (.int a1), some (.int a2), some (.int ((45 : Int32) + ((3 : Int32) * a2))), none, none] k102_6 rfl (by decide) rfl ?_
  refine q_aload_n (pc := 7) k102_7 rfl ?_
  refine q_getR (pc := 8) k102_8 fg102_19 rfl rfl ?_
  refine q_iload_n (pc := 11) k102_11 rfl ?_
  refine q_iconst (pc := 12) (v := 0) k102_12 (by decide) ?_
  refine q_iastv (pc := 13) (k := (Int32.toNatClampNeg ((45 : Int32) + ((3 : Int32) * a2)))) k102_13 rfl h.1 rfl ?_
  replace h := h.2
  refine q_aload_n (pc := 14) k102_14 rfl ?_
  refine q_getR (pc := 15) k102_15 fg102_19 rfl rfl ?_
  refine q_iload_n (pc := 18) k102_18 rfl ?_
  refine q_iconst (pc := 19) (v := 1) k102_19 (by decide) ?_
  refine q_iadd (pc := 20) k102_20 ?_
  refine q_iconst (pc := 21) (v := 0) k102_21 (by decide) ?_
  refine q_iastv (pc := 22) (k := (Int32.toNatClampNeg (((45 : Int32) + ((3 : Int32) * a2)) + 1))) k102_22 rfl h.1 rfl ?_
  replace h := h.2
  refine q_aload_n (pc := 23) k102_23 rfl ?_
  refine q_getR (pc := 24) k102_24 fg102_19 rfl rfl ?_
  refine q_iload_n (pc := 27) k102_27 rfl ?_
  refine q_iconst (pc := 28) (v := 2) k102_28 (by decide) ?_
  refine q_iadd (pc := 29) k102_29 ?_
  refine q_bipush (pc := 30) (v := (-9)) k102_30 (by decide) ?_
  refine q_iastv (pc := 32) (k := (Int32.toNatClampNeg (((45 : Int32) + ((3 : Int32) * a2)) + 2))) k102_32 rfl h.1 rfl ?_
  replace h := h.2
  refine q_iload_n (pc := 33) k102_33 rfl ?_
  refine q_bipush (pc := 34) (v := 46) k102_34 (by decide) ?_
  refine q_icmp_ne (pc := 36) 41 k102_36 (by decide) (fun g1 => ?_) (fun g1 => ?_)
  · replace h := h.1 g1
    refine q_iload_n (pc := 41) k102_41 rfl ?_
    refine q_bipush (pc := 42) (v := 35) k102_42 (by decide) ?_
    refine q_icmp_ne (pc := 44) 56 k102_44 (by decide) (fun g2 => ?_) (fun g2 => ?_)
    · replace h := h.1 g2
      refine q_iload_n (pc := 56) k102_56 rfl ?_
      refine q_bipush (pc := 57) (v := 49) k102_57 (by decide) ?_
      refine q_icmp_lt (pc := 59) 82 k102_59 (by decide) (fun g3 => ?_) (fun g3 => ?_)
      · replace h := h.1 g3
        refine q_iload_n (pc := 82) k102_82 rfl ?_
        refine q_bipush (pc := 83) (v := 97) k102_83 (by decide) ?_
        refine q_icmp_lt (pc := 85) 98 k102_85 (by decide) (fun g4 => ?_) (fun g4 => ?_)
        · replace h := h.1 g4
          refine q_iconst (pc := 98) (v := 0) k102_98 (by decide) ?_
          refine q_istore (pc := 99) [some (.ref 97), some (.int a1), some (.int a2), some (.int ((45 : Int32) + ((3 : Int32) * a2))), some (.int 0), none] k102_99 rfl (by decide) rfl ?_
          refine q_iload (pc := 101) k102_101 rfl ?_
          refine q_if_ne (pc := 103) 120 k102_103 (by decide) (fun g => absurd g (by decide)) (fun _ => ?_)
          refine q_iload_n (pc := 106) k102_106 rfl ?_
          refine q_bipush (pc := 107) (v := 120) k102_107 (by decide) ?_
          refine q_icmp_lt (pc := 109) 118 k102_109 (by decide) (fun g5 => ?_) (fun g5 => ?_)
          · replace h := h.1 g5
            refine q_iconst (pc := 118) (v := 0) k102_118 (by decide) ?_
            exact q_zreturn (pc := 119) k102_119 rfl (by decide) ⟨_, rfl, h⟩
          · replace h := h.2 g5
            refine q_iload_n (pc := 112) k102_112 rfl ?_
            refine q_bipush (pc := 113) (v := 122) k102_113 (by decide) ?_
            refine q_icmp_le (pc := 115) 120 k102_115 (by decide) (fun g6 => ?_) (fun g6 => ?_)
            · replace h := h.1 g6
              refine q_iload (pc := 120) k102_120 rfl ?_
              refine q_if_eq (pc := 122) 132 k102_122 (by decide) (fun _ => ?_) (fun g => absurd g (by decide))
              refine q_iload_n (pc := 132) k102_132 rfl ?_
              refine q_bipush (pc := 133) (v := 120) k102_133 (by decide) ?_
              refine q_isub (pc := 135) k102_135 ?_
              refine q_istore (pc := 136) [some (.ref 97), some (.int a1), some (.int a2), some (.int ((45 : Int32) + ((3 : Int32) * a2))), some (.int 0), some (.int (a1 - 120))] k102_136 rfl (by decide) rfl ?_
              refine q_iload (pc := 138) k102_138 rfl ?_
              refine q_if_eq (pc := 140) 150 k102_140 (by decide) (fun _ => ?_) (fun g => absurd g (by decide))
              refine q_aload_n (pc := 150) k102_150 rfl ?_
              refine q_getIv (pc := 151) (v := M 97 8) k102_151 fg102_87 rfl rfl rfl ?_
              refine q_iload (pc := 154) k102_154 rfl ?_
              refine q_ishr (pc := 156) k102_156 ?_
              refine q_iconst (pc := 157) (v := 1) k102_157 (by decide) ?_
              refine q_iand (pc := 158) k102_158 ?_
              refine q_iconst (pc := 159) (v := 1) k102_159 (by decide) ?_
              refine q_icmp_ne (pc := 160) 165 k102_160 (by decide) (fun g7 => ?_) (fun g7 => ?_)
              · replace h := h.1 g7
                refine q_aload_n (pc := 165) k102_165 rfl ?_
                refine q_getR (pc := 166) k102_166 fg102_19 rfl rfl ?_
                refine q_iload_n (pc := 169) k102_169 rfl ?_
                refine q_iload (pc := 170) k102_170 rfl ?_
                refine q_if_eq (pc := 172) 179 k102_172 (by decide) (fun _ => ?_) (fun g => absurd g (by decide))
                refine q_iconst (pc := 179) (v := 3) k102_179 (by decide) ?_
                refine q_iastv (pc := 180) (k := (Int32.toNatClampNeg ((45 : Int32) + ((3 : Int32) * a2)))) k102_180 rfl h.1 rfl ?_
                replace h := h.2
                refine q_aload_n (pc := 181) k102_181 rfl ?_
                refine q_getR (pc := 182) k102_182 fg102_19 rfl rfl ?_
                refine q_iload_n (pc := 185) k102_185 rfl ?_
                refine q_iconst (pc := 186) (v := 2) k102_186 (by decide) ?_
                refine q_iadd (pc := 187) k102_187 ?_
                refine q_iload (pc := 188) k102_188 rfl ?_
                refine q_iastv (pc := 190) (k := (Int32.toNatClampNeg (((45 : Int32) + ((3 : Int32) * a2)) + 2))) k102_190 rfl h.1 rfl ?_
                replace h := h.2
                refine q_iload (pc := 191) k102_191 rfl ?_
                refine q_if_eq (pc := 193) 212 k102_193 (by decide) (fun _ => ?_) (fun g => absurd g (by decide))
                refine q_aload_n (pc := 212) k102_212 rfl ?_
                refine q_dup (pc := 213) k102_213 rfl ?_
                refine q_getIv (pc := 214) (v := M 97 8) k102_214 fg102_87 rfl rfl rfl ?_
                refine q_iconst (pc := 217) (v := 1) k102_217 (by decide) ?_
                refine q_iload (pc := 218) k102_218 rfl ?_
                refine q_ishl (pc := 220) k102_220 ?_
                refine q_ior (pc := 221) k102_221 ?_
                refine q_putI (pc := 222) k102_222 fp102_87 rfl rfl ?_
                refine q_iconst (pc := 225) (v := 1) k102_225 (by decide) ?_
                exact q_zreturn (pc := 226) k102_226 rfl (by decide) ⟨_, rfl, h⟩
              · replace h := h.2 g7
                refine q_iconst (pc := 163) (v := 0) k102_163 (by decide) ?_
                exact q_zreturn (pc := 164) k102_164 rfl (by decide) ⟨_, rfl, h⟩
            · replace h := h.2 g6
              refine q_iconst (pc := 118) (v := 0) k102_118 (by decide) ?_
              exact q_zreturn (pc := 119) k102_119 rfl (by decide) ⟨_, rfl, h⟩
        · replace h := h.2 g4
          refine q_iload_n (pc := 88) k102_88 rfl ?_
          refine q_bipush (pc := 89) (v := 99) k102_89 (by decide) ?_
          refine q_icmp_gt (pc := 91) 98 k102_91 (by decide) (fun g8 => ?_) (fun g8 => ?_)
          · replace h := h.1 g8
            refine q_iconst (pc := 98) (v := 0) k102_98 (by decide) ?_
            refine q_istore (pc := 99) [some (.ref 97), some (.int a1), some (.int a2), some (.int ((45 : Int32) + ((3 : Int32) * a2))), some (.int 0), none] k102_99 rfl (by decide) rfl ?_
            refine q_iload (pc := 101) k102_101 rfl ?_
            refine q_if_ne (pc := 103) 120 k102_103 (by decide) (fun g => absurd g (by decide)) (fun _ => ?_)
            refine q_iload_n (pc := 106) k102_106 rfl ?_
            refine q_bipush (pc := 107) (v := 120) k102_107 (by decide) ?_
            refine q_icmp_lt (pc := 109) 118 k102_109 (by decide) (fun g9 => ?_) (fun g9 => ?_)
            · replace h := h.1 g9
              refine q_iconst (pc := 118) (v := 0) k102_118 (by decide) ?_
              exact q_zreturn (pc := 119) k102_119 rfl (by decide) ⟨_, rfl, h⟩
            · replace h := h.2 g9
              refine q_iload_n (pc := 112) k102_112 rfl ?_
              refine q_bipush (pc := 113) (v := 122) k102_113 (by decide) ?_
              refine q_icmp_le (pc := 115) 120 k102_115 (by decide) (fun g10 => ?_) (fun g10 => ?_)
              · replace h := h.1 g10
                refine q_iload (pc := 120) k102_120 rfl ?_
                refine q_if_eq (pc := 122) 132 k102_122 (by decide) (fun _ => ?_) (fun g => absurd g (by decide))
                refine q_iload_n (pc := 132) k102_132 rfl ?_
                refine q_bipush (pc := 133) (v := 120) k102_133 (by decide) ?_
                refine q_isub (pc := 135) k102_135 ?_
                refine q_istore (pc := 136) [some (.ref 97), some (.int a1), some (.int a2), some (.int ((45 : Int32) + ((3 : Int32) * a2))), some (.int 0), some (.int (a1 - 120))] k102_136 rfl (by decide) rfl ?_
                refine q_iload (pc := 138) k102_138 rfl ?_
                refine q_if_eq (pc := 140) 150 k102_140 (by decide) (fun _ => ?_) (fun g => absurd g (by decide))
                refine q_aload_n (pc := 150) k102_150 rfl ?_
                refine q_getIv (pc := 151) (v := M 97 8) k102_151 fg102_87 rfl rfl rfl ?_
                refine q_iload (pc := 154) k102_154 rfl ?_
                refine q_ishr (pc := 156) k102_156 ?_
                refine q_iconst (pc := 157) (v := 1) k102_157 (by decide) ?_
                refine q_iand (pc := 158) k102_158 ?_
                refine q_iconst (pc := 159) (v := 1) k102_159 (by decide) ?_
                refine q_icmp_ne (pc := 160) 165 k102_160 (by decide) (fun g11 => ?_) (fun g11 => ?_)
                · replace h := h.1 g11
                  refine q_aload_n (pc := 165) k102_165 rfl ?_
                  refine q_getR (pc := 166) k102_166 fg102_19 rfl rfl ?_
                  refine q_iload_n (pc := 169) k102_169 rfl ?_
                  refine q_iload (pc := 170) k102_170 rfl ?_
                  refine q_if_eq (pc := 172) 179 k102_172 (by decide) (fun _ => ?_) (fun g => absurd g (by decide))
                  refine q_iconst (pc := 179) (v := 3) k102_179 (by decide) ?_
                  refine q_iastv (pc := 180) (k := (Int32.toNatClampNeg ((45 : Int32) + ((3 : Int32) * a2)))) k102_180 rfl h.1 rfl ?_
                  replace h := h.2
                  refine q_aload_n (pc := 181) k102_181 rfl ?_
                  refine q_getR (pc := 182) k102_182 fg102_19 rfl rfl ?_
                  refine q_iload_n (pc := 185) k102_185 rfl ?_
                  refine q_iconst (pc := 186) (v := 2) k102_186 (by decide) ?_
                  refine q_iadd (pc := 187) k102_187 ?_
                  refine q_iload (pc := 188) k102_188 rfl ?_
                  refine q_iastv (pc := 190) (k := (Int32.toNatClampNeg (((45 : Int32) + ((3 : Int32) * a2)) + 2))) k102_190 rfl h.1 rfl ?_
                  replace h := h.2
                  refine q_iload (pc := 191) k102_191 rfl ?_
                  refine q_if_eq (pc := 193) 212 k102_193 (by decide) (fun _ => ?_) (fun g => absurd g (by decide))
                  refine q_aload_n (pc := 212) k102_212 rfl ?_
                  refine q_dup (pc := 213) k102_213 rfl ?_
                  refine q_getIv (pc := 214) (v := M 97 8) k102_214 fg102_87 rfl rfl rfl ?_
                  refine q_iconst (pc := 217) (v := 1) k102_217 (by decide) ?_
                  refine q_iload (pc := 218) k102_218 rfl ?_
                  refine q_ishl (pc := 220) k102_220 ?_
                  refine q_ior (pc := 221) k102_221 ?_
                  refine q_putI (pc := 222) k102_222 fp102_87 rfl rfl ?_
                  refine q_iconst (pc := 225) (v := 1) k102_225 (by decide) ?_
                  exact q_zreturn (pc := 226) k102_226 rfl (by decide) ⟨_, rfl, h⟩
                · replace h := h.2 g11
                  refine q_iconst (pc := 163) (v := 0) k102_163 (by decide) ?_
                  exact q_zreturn (pc := 164) k102_164 rfl (by decide) ⟨_, rfl, h⟩
              · replace h := h.2 g10
                refine q_iconst (pc := 118) (v := 0) k102_118 (by decide) ?_
                exact q_zreturn (pc := 119) k102_119 rfl (by decide) ⟨_, rfl, h⟩
          · replace h := h.2 g8
            refine q_iconst (pc := 94) (v := 1) k102_94 (by decide) ?_
            refine q_goto (pc := 95) 99 k102_95 (by decide) ?_
            refine q_istore (pc := 99) [some (.ref 97), some (.int a1), some (.int a2), some (.int ((45 : Int32) + ((3 : Int32) * a2))), some (.int 1), none] k102_99 rfl (by decide) rfl ?_
            refine q_iload (pc := 101) k102_101 rfl ?_
            refine q_if_ne (pc := 103) 120 k102_103 (by decide) (fun _ => ?_) (fun g => absurd g (by decide))
            refine q_iload (pc := 120) k102_120 rfl ?_
            refine q_if_eq (pc := 122) 132 k102_122 (by decide) (fun g => absurd g (by decide)) (fun _ => ?_)
            refine q_iload_n (pc := 125) k102_125 rfl ?_
            refine q_bipush (pc := 126) (v := 97) k102_126 (by decide) ?_
            refine q_isub (pc := 128) k102_128 ?_
            refine q_goto (pc := 129) 136 k102_129 (by decide) ?_
            refine q_istore (pc := 136) [some (.ref 97), some (.int a1), some (.int a2), some (.int ((45 : Int32) + ((3 : Int32) * a2))), some (.int 1), some (.int (a1 - 97))] k102_136 rfl (by decide) rfl ?_
            refine q_iload (pc := 138) k102_138 rfl ?_
            refine q_if_eq (pc := 140) 150 k102_140 (by decide) (fun g => absurd g (by decide)) (fun _ => ?_)
            refine q_aload_n (pc := 143) k102_143 rfl ?_
            refine q_getIv (pc := 144) (v := M 97 7) k102_144 fg102_84 rfl rfl rfl ?_
            refine q_goto (pc := 147) 154 k102_147 (by decide) ?_
            refine q_iload (pc := 154) k102_154 rfl ?_
            refine q_ishr (pc := 156) k102_156 ?_
            refine q_iconst (pc := 157) (v := 1) k102_157 (by decide) ?_
            refine q_iand (pc := 158) k102_158 ?_
            refine q_iconst (pc := 159) (v := 1) k102_159 (by decide) ?_
            refine q_icmp_ne (pc := 160) 165 k102_160 (by decide) (fun g12 => ?_) (fun g12 => ?_)
            · replace h := h.1 g12
              refine q_aload_n (pc := 165) k102_165 rfl ?_
              refine q_getR (pc := 166) k102_166 fg102_19 rfl rfl ?_
              refine q_iload_n (pc := 169) k102_169 rfl ?_
              refine q_iload (pc := 170) k102_170 rfl ?_
              refine q_if_eq (pc := 172) 179 k102_172 (by decide) (fun g => absurd g (by decide)) (fun _ => ?_)
              refine q_iconst (pc := 175) (v := 2) k102_175 (by decide) ?_
              refine q_goto (pc := 176) 180 k102_176 (by decide) ?_
              refine q_iastv (pc := 180) (k := (Int32.toNatClampNeg ((45 : Int32) + ((3 : Int32) * a2)))) k102_180 rfl h.1 rfl ?_
              replace h := h.2
              refine q_aload_n (pc := 181) k102_181 rfl ?_
              refine q_getR (pc := 182) k102_182 fg102_19 rfl rfl ?_
              refine q_iload_n (pc := 185) k102_185 rfl ?_
              refine q_iconst (pc := 186) (v := 2) k102_186 (by decide) ?_
              refine q_iadd (pc := 187) k102_187 ?_
              refine q_iload (pc := 188) k102_188 rfl ?_
              refine q_iastv (pc := 190) (k := (Int32.toNatClampNeg (((45 : Int32) + ((3 : Int32) * a2)) + 2))) k102_190 rfl h.1 rfl ?_
              replace h := h.2
              refine q_iload (pc := 191) k102_191 rfl ?_
              refine q_if_eq (pc := 193) 212 k102_193 (by decide) (fun g => absurd g (by decide)) (fun _ => ?_)
              refine q_aload_n (pc := 196) k102_196 rfl ?_
              refine q_dup (pc := 197) k102_197 rfl ?_
              refine q_getIv (pc := 198) (v := M 97 7) k102_198 fg102_84 rfl rfl rfl ?_
              refine q_iconst (pc := 201) (v := 1) k102_201 (by decide) ?_
              refine q_iload (pc := 202) k102_202 rfl ?_
              refine q_ishl (pc := 204) k102_204 ?_
              refine q_ior (pc := 205) k102_205 ?_
              refine q_putI (pc := 206) k102_206 fp102_84 rfl rfl ?_
              refine q_goto (pc := 209) 225 k102_209 (by decide) ?_
              refine q_iconst (pc := 225) (v := 1) k102_225 (by decide) ?_
              exact q_zreturn (pc := 226) k102_226 rfl (by decide) ⟨_, rfl, h⟩
            · replace h := h.2 g12
              refine q_iconst (pc := 163) (v := 0) k102_163 (by decide) ?_
              exact q_zreturn (pc := 164) k102_164 rfl (by decide) ⟨_, rfl, h⟩
      · replace h := h.2 g3
        refine q_iload_n (pc := 62) k102_62 rfl ?_
        refine q_bipush (pc := 63) (v := 57) k102_63 (by decide) ?_
        refine q_icmp_gt (pc := 65) 82 k102_65 (by decide) (fun g13 => ?_) (fun g13 => ?_)
        · replace h := h.1 g13
          refine q_iload_n (pc := 82) k102_82 rfl ?_
          refine q_bipush (pc := 83) (v := 97) k102_83 (by decide) ?_
          refine q_icmp_lt (pc := 85) 98 k102_85 (by decide) (fun g14 => ?_) (fun g14 => ?_)
          · replace h := h.1 g14
            refine q_iconst (pc := 98) (v := 0) k102_98 (by decide) ?_
            refine q_istore (pc := 99) [some (.ref 97), some (.int a1), some (.int a2), some (.int ((45 : Int32) + ((3 : Int32) * a2))), some (.int 0), none] k102_99 rfl (by decide) rfl ?_
            refine q_iload (pc := 101) k102_101 rfl ?_
            refine q_if_ne (pc := 103) 120 k102_103 (by decide) (fun g => absurd g (by decide)) (fun _ => ?_)
            refine q_iload_n (pc := 106) k102_106 rfl ?_
            refine q_bipush (pc := 107) (v := 120) k102_107 (by decide) ?_
            refine q_icmp_lt (pc := 109) 118 k102_109 (by decide) (fun g15 => ?_) (fun g15 => ?_)
            · replace h := h.1 g15
              refine q_iconst (pc := 118) (v := 0) k102_118 (by decide) ?_
              exact q_zreturn (pc := 119) k102_119 rfl (by decide) ⟨_, rfl, h⟩
            · replace h := h.2 g15
              refine q_iload_n (pc := 112) k102_112 rfl ?_
              refine q_bipush (pc := 113) (v := 122) k102_113 (by decide) ?_
              refine q_icmp_le (pc := 115) 120 k102_115 (by decide) (fun g16 => ?_) (fun g16 => ?_)
              · replace h := h.1 g16
                refine q_iload (pc := 120) k102_120 rfl ?_
                refine q_if_eq (pc := 122) 132 k102_122 (by decide) (fun _ => ?_) (fun g => absurd g (by decide))
                refine q_iload_n (pc := 132) k102_132 rfl ?_
                refine q_bipush (pc := 133) (v := 120) k102_133 (by decide) ?_
                refine q_isub (pc := 135) k102_135 ?_
                refine q_istore (pc := 136) [some (.ref 97), some (.int a1), some (.int a2), some (.int ((45 : Int32) + ((3 : Int32) * a2))), some (.int 0), some (.int (a1 - 120))] k102_136 rfl (by decide) rfl ?_
                refine q_iload (pc := 138) k102_138 rfl ?_
                refine q_if_eq (pc := 140) 150 k102_140 (by decide) (fun _ => ?_) (fun g => absurd g (by decide))
                refine q_aload_n (pc := 150) k102_150 rfl ?_
                refine q_getIv (pc := 151) (v := M 97 8) k102_151 fg102_87 rfl rfl rfl ?_
                refine q_iload (pc := 154) k102_154 rfl ?_
                refine q_ishr (pc := 156) k102_156 ?_
                refine q_iconst (pc := 157) (v := 1) k102_157 (by decide) ?_
                refine q_iand (pc := 158) k102_158 ?_
                refine q_iconst (pc := 159) (v := 1) k102_159 (by decide) ?_
                refine q_icmp_ne (pc := 160) 165 k102_160 (by decide) (fun g17 => ?_) (fun g17 => ?_)
                · replace h := h.1 g17
                  refine q_aload_n (pc := 165) k102_165 rfl ?_
                  refine q_getR (pc := 166) k102_166 fg102_19 rfl rfl ?_
                  refine q_iload_n (pc := 169) k102_169 rfl ?_
                  refine q_iload (pc := 170) k102_170 rfl ?_
                  refine q_if_eq (pc := 172) 179 k102_172 (by decide) (fun _ => ?_) (fun g => absurd g (by decide))
                  refine q_iconst (pc := 179) (v := 3) k102_179 (by decide) ?_
                  refine q_iastv (pc := 180) (k := (Int32.toNatClampNeg ((45 : Int32) + ((3 : Int32) * a2)))) k102_180 rfl h.1 rfl ?_
                  replace h := h.2
                  refine q_aload_n (pc := 181) k102_181 rfl ?_
                  refine q_getR (pc := 182) k102_182 fg102_19 rfl rfl ?_
                  refine q_iload_n (pc := 185) k102_185 rfl ?_
                  refine q_iconst (pc := 186) (v := 2) k102_186 (by decide) ?_
                  refine q_iadd (pc := 187) k102_187 ?_
                  refine q_iload (pc := 188) k102_188 rfl ?_
                  refine q_iastv (pc := 190) (k := (Int32.toNatClampNeg (((45 : Int32) + ((3 : Int32) * a2)) + 2))) k102_190 rfl h.1 rfl ?_
                  replace h := h.2
                  refine q_iload (pc := 191) k102_191 rfl ?_
                  refine q_if_eq (pc := 193) 212 k102_193 (by decide) (fun _ => ?_) (fun g => absurd g (by decide))
                  refine q_aload_n (pc := 212) k102_212 rfl ?_
                  refine q_dup (pc := 213) k102_213 rfl ?_
                  refine q_getIv (pc := 214) (v := M 97 8) k102_214 fg102_87 rfl rfl rfl ?_
                  refine q_iconst (pc := 217) (v := 1) k102_217 (by decide) ?_
                  refine q_iload (pc := 218) k102_218 rfl ?_
                  refine q_ishl (pc := 220) k102_220 ?_
                  refine q_ior (pc := 221) k102_221 ?_
                  refine q_putI (pc := 222) k102_222 fp102_87 rfl rfl ?_
                  refine q_iconst (pc := 225) (v := 1) k102_225 (by decide) ?_
                  exact q_zreturn (pc := 226) k102_226 rfl (by decide) ⟨_, rfl, h⟩
                · replace h := h.2 g17
                  refine q_iconst (pc := 163) (v := 0) k102_163 (by decide) ?_
                  exact q_zreturn (pc := 164) k102_164 rfl (by decide) ⟨_, rfl, h⟩
              · replace h := h.2 g16
                refine q_iconst (pc := 118) (v := 0) k102_118 (by decide) ?_
                exact q_zreturn (pc := 119) k102_119 rfl (by decide) ⟨_, rfl, h⟩
          · replace h := h.2 g14
            refine q_iload_n (pc := 88) k102_88 rfl ?_
            refine q_bipush (pc := 89) (v := 99) k102_89 (by decide) ?_
            refine q_icmp_gt (pc := 91) 98 k102_91 (by decide) (fun g18 => ?_) (fun g18 => ?_)
            · replace h := h.1 g18
              refine q_iconst (pc := 98) (v := 0) k102_98 (by decide) ?_
              refine q_istore (pc := 99) [some (.ref 97), some (.int a1), some (.int a2), some (.int ((45 : Int32) + ((3 : Int32) * a2))), some (.int 0), none] k102_99 rfl (by decide) rfl ?_
              refine q_iload (pc := 101) k102_101 rfl ?_
              refine q_if_ne (pc := 103) 120 k102_103 (by decide) (fun g => absurd g (by decide)) (fun _ => ?_)
              refine q_iload_n (pc := 106) k102_106 rfl ?_
              refine q_bipush (pc := 107) (v := 120) k102_107 (by decide) ?_
              refine q_icmp_lt (pc := 109) 118 k102_109 (by decide) (fun g19 => ?_) (fun g19 => ?_)
              · replace h := h.1 g19
                refine q_iconst (pc := 118) (v := 0) k102_118 (by decide) ?_
                exact q_zreturn (pc := 119) k102_119 rfl (by decide) ⟨_, rfl, h⟩
              · replace h := h.2 g19
                refine q_iload_n (pc := 112) k102_112 rfl ?_
                refine q_bipush (pc := 113) (v := 122) k102_113 (by decide) ?_
                refine q_icmp_le (pc := 115) 120 k102_115 (by decide) (fun g20 => ?_) (fun g20 => ?_)
                · replace h := h.1 g20
                  refine q_iload (pc := 120) k102_120 rfl ?_
                  refine q_if_eq (pc := 122) 132 k102_122 (by decide) (fun _ => ?_) (fun g => absurd g (by decide))
                  refine q_iload_n (pc := 132) k102_132 rfl ?_
                  refine q_bipush (pc := 133) (v := 120) k102_133 (by decide) ?_
                  refine q_isub (pc := 135) k102_135 ?_
                  refine q_istore (pc := 136) [some (.ref 97), some (.int a1), some (.int a2), some (.int ((45 : Int32) + ((3 : Int32) * a2))), some (.int 0), some (.int (a1 - 120))] k102_136 rfl (by decide) rfl ?_
                  refine q_iload (pc := 138) k102_138 rfl ?_
                  refine q_if_eq (pc := 140) 150 k102_140 (by decide) (fun _ => ?_) (fun g => absurd g (by decide))
                  refine q_aload_n (pc := 150) k102_150 rfl ?_
                  refine q_getIv (pc := 151) (v := M 97 8) k102_151 fg102_87 rfl rfl rfl ?_
                  refine q_iload (pc := 154) k102_154 rfl ?_
                  refine q_ishr (pc := 156) k102_156 ?_
                  refine q_iconst (pc := 157) (v := 1) k102_157 (by decide) ?_
                  refine q_iand (pc := 158) k102_158 ?_
                  refine q_iconst (pc := 159) (v := 1) k102_159 (by decide) ?_
                  refine q_icmp_ne (pc := 160) 165 k102_160 (by decide) (fun g21 => ?_) (fun g21 => ?_)
                  · replace h := h.1 g21
                    refine q_aload_n (pc := 165) k102_165 rfl ?_
                    refine q_getR (pc := 166) k102_166 fg102_19 rfl rfl ?_
                    refine q_iload_n (pc := 169) k102_169 rfl ?_
                    refine q_iload (pc := 170) k102_170 rfl ?_
                    refine q_if_eq (pc := 172) 179 k102_172 (by decide) (fun _ => ?_) (fun g => absurd g (by decide))
                    refine q_iconst (pc := 179) (v := 3) k102_179 (by decide) ?_
                    refine q_iastv (pc := 180) (k := (Int32.toNatClampNeg ((45 : Int32) + ((3 : Int32) * a2)))) k102_180 rfl h.1 rfl ?_
                    replace h := h.2
                    refine q_aload_n (pc := 181) k102_181 rfl ?_
                    refine q_getR (pc := 182) k102_182 fg102_19 rfl rfl ?_
                    refine q_iload_n (pc := 185) k102_185 rfl ?_
                    refine q_iconst (pc := 186) (v := 2) k102_186 (by decide) ?_
                    refine q_iadd (pc := 187) k102_187 ?_
                    refine q_iload (pc := 188) k102_188 rfl ?_
                    refine q_iastv (pc := 190) (k := (Int32.toNatClampNeg (((45 : Int32) + ((3 : Int32) * a2)) + 2))) k102_190 rfl h.1 rfl ?_
                    replace h := h.2
                    refine q_iload (pc := 191) k102_191 rfl ?_
                    refine q_if_eq (pc := 193) 212 k102_193 (by decide) (fun _ => ?_) (fun g => absurd g (by decide))
                    refine q_aload_n (pc := 212) k102_212 rfl ?_
                    refine q_dup (pc := 213) k102_213 rfl ?_
                    refine q_getIv (pc := 214) (v := M 97 8) k102_214 fg102_87 rfl rfl rfl ?_
                    refine q_iconst (pc := 217) (v := 1) k102_217 (by decide) ?_
                    refine q_iload (pc := 218) k102_218 rfl ?_
                    refine q_ishl (pc := 220) k102_220 ?_
                    refine q_ior (pc := 221) k102_221 ?_
                    refine q_putI (pc := 222) k102_222 fp102_87 rfl rfl ?_
                    refine q_iconst (pc := 225) (v := 1) k102_225 (by decide) ?_
                    exact q_zreturn (pc := 226) k102_226 rfl (by decide) ⟨_, rfl, h⟩
                  · replace h := h.2 g21
                    refine q_iconst (pc := 163) (v := 0) k102_163 (by decide) ?_
                    exact q_zreturn (pc := 164) k102_164 rfl (by decide) ⟨_, rfl, h⟩
                · replace h := h.2 g20
                  refine q_iconst (pc := 118) (v := 0) k102_118 (by decide) ?_
                  exact q_zreturn (pc := 119) k102_119 rfl (by decide) ⟨_, rfl, h⟩
            · replace h := h.2 g18
              refine q_iconst (pc := 94) (v := 1) k102_94 (by decide) ?_
              refine q_goto (pc := 95) 99 k102_95 (by decide) ?_
              refine q_istore (pc := 99) [some (.ref 97), some (.int a1), some (.int a2), some (.int ((45 : Int32) + ((3 : Int32) * a2))), some (.int 1), none] k102_99 rfl (by decide) rfl ?_
              refine q_iload (pc := 101) k102_101 rfl ?_
              refine q_if_ne (pc := 103) 120 k102_103 (by decide) (fun _ => ?_) (fun g => absurd g (by decide))
              refine q_iload (pc := 120) k102_120 rfl ?_
              refine q_if_eq (pc := 122) 132 k102_122 (by decide) (fun g => absurd g (by decide)) (fun _ => ?_)
              refine q_iload_n (pc := 125) k102_125 rfl ?_
              refine q_bipush (pc := 126) (v := 97) k102_126 (by decide) ?_
              refine q_isub (pc := 128) k102_128 ?_
              refine q_goto (pc := 129) 136 k102_129 (by decide) ?_
              refine q_istore (pc := 136) [some (.ref 97), some (.int a1), some (.int a2), some (.int ((45 : Int32) + ((3 : Int32) * a2))), some (.int 1), some (.int (a1 - 97))] k102_136 rfl (by decide) rfl ?_
              refine q_iload (pc := 138) k102_138 rfl ?_
              refine q_if_eq (pc := 140) 150 k102_140 (by decide) (fun g => absurd g (by decide)) (fun _ => ?_)
              refine q_aload_n (pc := 143) k102_143 rfl ?_
              refine q_getIv (pc := 144) (v := M 97 7) k102_144 fg102_84 rfl rfl rfl ?_
              refine q_goto (pc := 147) 154 k102_147 (by decide) ?_
              refine q_iload (pc := 154) k102_154 rfl ?_
              refine q_ishr (pc := 156) k102_156 ?_
              refine q_iconst (pc := 157) (v := 1) k102_157 (by decide) ?_
              refine q_iand (pc := 158) k102_158 ?_
              refine q_iconst (pc := 159) (v := 1) k102_159 (by decide) ?_
              refine q_icmp_ne (pc := 160) 165 k102_160 (by decide) (fun g22 => ?_) (fun g22 => ?_)
              · replace h := h.1 g22
                refine q_aload_n (pc := 165) k102_165 rfl ?_
                refine q_getR (pc := 166) k102_166 fg102_19 rfl rfl ?_
                refine q_iload_n (pc := 169) k102_169 rfl ?_
                refine q_iload (pc := 170) k102_170 rfl ?_
                refine q_if_eq (pc := 172) 179 k102_172 (by decide) (fun g => absurd g (by decide)) (fun _ => ?_)
                refine q_iconst (pc := 175) (v := 2) k102_175 (by decide) ?_
                refine q_goto (pc := 176) 180 k102_176 (by decide) ?_
                refine q_iastv (pc := 180) (k := (Int32.toNatClampNeg ((45 : Int32) + ((3 : Int32) * a2)))) k102_180 rfl h.1 rfl ?_
                replace h := h.2
                refine q_aload_n (pc := 181) k102_181 rfl ?_
                refine q_getR (pc := 182) k102_182 fg102_19 rfl rfl ?_
                refine q_iload_n (pc := 185) k102_185 rfl ?_
                refine q_iconst (pc := 186) (v := 2) k102_186 (by decide) ?_
                refine q_iadd (pc := 187) k102_187 ?_
                refine q_iload (pc := 188) k102_188 rfl ?_
                refine q_iastv (pc := 190) (k := (Int32.toNatClampNeg (((45 : Int32) + ((3 : Int32) * a2)) + 2))) k102_190 rfl h.1 rfl ?_
                replace h := h.2
                refine q_iload (pc := 191) k102_191 rfl ?_
                refine q_if_eq (pc := 193) 212 k102_193 (by decide) (fun g => absurd g (by decide)) (fun _ => ?_)
                refine q_aload_n (pc := 196) k102_196 rfl ?_
                refine q_dup (pc := 197) k102_197 rfl ?_
                refine q_getIv (pc := 198) (v := M 97 7) k102_198 fg102_84 rfl rfl rfl ?_
                refine q_iconst (pc := 201) (v := 1) k102_201 (by decide) ?_
                refine q_iload (pc := 202) k102_202 rfl ?_
                refine q_ishl (pc := 204) k102_204 ?_
                refine q_ior (pc := 205) k102_205 ?_
                refine q_putI (pc := 206) k102_206 fp102_84 rfl rfl ?_
                refine q_goto (pc := 209) 225 k102_209 (by decide) ?_
                refine q_iconst (pc := 225) (v := 1) k102_225 (by decide) ?_
                exact q_zreturn (pc := 226) k102_226 rfl (by decide) ⟨_, rfl, h⟩
              · replace h := h.2 g22
                refine q_iconst (pc := 163) (v := 0) k102_163 (by decide) ?_
                exact q_zreturn (pc := 164) k102_164 rfl (by decide) ⟨_, rfl, h⟩
        · replace h := h.2 g13
          refine q_aload_n (pc := 68) k102_68 rfl ?_
          refine q_getR (pc := 69) k102_69 fg102_19 rfl rfl ?_
          refine q_iload_n (pc := 72) k102_72 rfl ?_
          refine q_iconst (pc := 73) (v := 1) k102_73 (by decide) ?_
          refine q_iadd (pc := 74) k102_74 ?_
          refine q_iload_n (pc := 75) k102_75 rfl ?_
          refine q_bipush (pc := 76) (v := 48) k102_76 (by decide) ?_
          refine q_isub (pc := 78) k102_78 ?_
          refine q_iastv (pc := 79) (k := (Int32.toNatClampNeg (((45 : Int32) + ((3 : Int32) * a2)) + 1))) k102_79 rfl h.1 rfl ?_
          replace h := h.2
          refine q_iconst (pc := 80) (v := 1) k102_80 (by decide) ?_
          exact q_zreturn (pc := 81) k102_81 rfl (by decide) ⟨_, rfl, h⟩
    · replace h := h.2 g2
      refine q_aload_n (pc := 47) k102_47 rfl ?_
      refine q_getR (pc := 48) k102_48 fg102_19 rfl rfl ?_
      refine q_iload_n (pc := 51) k102_51 rfl ?_
      refine q_iconst (pc := 52) (v := 1) k102_52 (by decide) ?_
      refine q_iastv (pc := 53) (k := (Int32.toNatClampNeg ((45 : Int32) + ((3 : Int32) * a2)))) k102_53 rfl h.1 rfl ?_
      replace h := h.2
      refine q_iconst (pc := 54) (v := 1) k102_54 (by decide) ?_
      exact q_zreturn (pc := 55) k102_55 rfl (by decide) ⟨_, rfl, h⟩
  · replace h := h.2 g1
    refine q_iconst (pc := 39) (v := 1) k102_39 (by decide) ?_
    exact q_zreturn (pc := 40) k102_40 rfl (by decide) ⟨_, rfl, h⟩
set_option maxRecDepth 20000 in
theorem vc103 {X : Nat × (Nat → Int32)} {d : Nat} {M : q_M} {K : Int32 → q_M → Prop} (h : q_Ex X d 103 22 [some (.ref 97), some (.int 1), some (.int 0), some (.int 0), some (.int 0), some (.int 0), none] [] (q_set (q_set M 97 7 0) 97 8 0) (q_ri K)) : q_Ci X d 103 [.ref 97] M K := by
  show q_Ex X d 103 0 [some (.ref 97), none, none, none, none, none, none] [] M (q_ri K)
  refine q_aload_n (pc := 0) k103_0 rfl ?_
  refine q_iconst (pc := 1) (v := 0) k103_1 (by decide) ?_
  refine q_putI (pc := 2) k103_2 fp103_84 rfl rfl ?_
  refine q_aload_n (pc := 5) k103_5 rfl ?_
  refine q_iconst (pc := 6) (v := 0) k103_6 (by decide) ?_
  refine q_putI (pc := 7) k103_7 fp103_87 rfl rfl ?_
  refine q_iconst (pc := 10) (v := 1) k103_10 (by decide) ?_
  refine q_istore_n (pc := 11) [some (.ref 97), some (.int 1), none, none, none, none, none] k103_11 rfl (by decide) rfl ?_
  refine q_iconst (pc := 12) (v := 0) k103_12 (by decide) ?_
  refine q_istore_n (pc := 13) [some (.ref 97), some (.int 1), some (.int 0), none, none, none, none] k103_13 rfl (by decide) rfl ?_
  refine q_iconst (pc := 14) (v := 0) k103_14 (by decide) ?_
  refine q_istore_n (pc := 15) [some (.ref 97), some (.int 1), some (.int 0), some (.int 0), none, none, none] k103_15 rfl (by decide) rfl ?_
  refine q_iconst (pc := 16) (v := 0) k103_16 (by decide) ?_
  refine q_istore (pc := 17) [some (.ref 97), some (.int 1), some (.int 0), some (.int 0), some (.int 0), none, none] k103_17 rfl (by decide) rfl ?_
  refine q_iconst (pc := 19) (v := 0) k103_19 (by decide) ?_
  refine q_istore (pc := 20) [some (.ref 97), some (.int 1), some (.int 0), some (.int 0), some (.int 0), some (.int 0), none] k103_20 rfl (by decide) rfl ?_
  exact h
set_option maxRecDepth 20000 in
theorem vc103_p22 {X : Nat × (Nat → Int32)} {d : Nat} (hd : 0 < d) {M : q_M} {a1 a2 a3 a4 a5 : Int32} {K : Int32 → q_M → Prop} (h : (((M 97 6) ≤ a5) → (((a1 < 2) → (K (((-1000) : Int32) - (M 97 6)) M)) ∧ ((¬ a1 < 2) → (((a2 ≤ a3) → (((¬ (M 97 7) = (M 97 8)) → (K (-2000) M)) ∧ (((M 97 7) = (M 97 8)) → ((((M 97 7) = 1) → (q_Ex X d 103 213 [some (.ref 97), some (.int a1), some (.int a2), none, some (.int a4), some (.int 45), none] [] M (q_ri K))) ∧ ((¬ (M 97 7) = 1) → ((((M 97 7) = 3) → (q_Ex X d 103 213 [some (.ref 97), some (.int a1), some (.int a2), none, some (.int a4), some (.int 45), none] [] M (q_ri K))) ∧ ((¬ (M 97 7) = 3) → ((((M 97 7) = 7) → (q_Ex X d 103 213 [some (.ref 97), some (.int a1), some (.int a2), none, some (.int a4), some (.int 45), none] [] M (q_ri K))) ∧ ((¬ (M 97 7) = 7) → (K (-2000) M)))))))))) ∧ ((¬ a2 ≤ a3) → (K (((-1000) : Int32) - (M 97 6)) M)))))) ∧ ((¬ (M 97 6) ≤ a5) → (vp_in a5 48 ∧ (((¬ (M 102 (Int32.toNatClampNeg a5)) = 47) → (((¬ a1 = 1) → (((a3 = a2) → (K (((-1000) : Int32) - a5) M)) ∧ ((¬ a3 = a2) → (vp_in a5 48 ∧ (q_Ci X (d - 1) 102 [.ref 97, .int (M 102 (Int32.toNatClampNeg a5)), .int a4] M (fun r12 M11 => ((¬ r12 = 0) → (q_Ex X d 103 22 [some (.ref 97), some (.int a1), some (.int a2), some (.int (a3 + 1)), some (.int (a4 + 1)), some (.int (a5 + 1)), none] [] M11 (q_ri K))) ∧ ((r12 = 0) → (K (((-1000) : Int32) - a5) M11)))))))) ∧ ((a1 = 1) → (((a3 = 5) → (K (((-1000) : Int32) - a5) M)) ∧ ((¬ a3 = 5) → (vp_in a5 48 ∧ (q_Ci X (d - 1) 102 [.ref 97, .int (M 102 (Int32.toNatClampNeg a5)), .int a4] M (fun r16 M15 => ((¬ r16 = 0) → (q_Ex X d 103 22 [some (.ref 97), some (.int a1), some (.int a2), some (.int (a3 + 1)), some (.int (a4 + 1)), some (.int (a5 + 1)), none] [] M15 (q_ri K))) ∧ ((r16 = 0) → (K (((-1000) : Int32) - a5) M15)))))))))) ∧ (((M 102 (Int32.toNatClampNeg a5)) = 47) → (((¬ a1 = 1) → (((¬ a3 = a2) → (K (((-1000) : Int32) - a5) M)) ∧ ((a3 = a2) → (((6 ≤ a1) → (K (((-1000) : Int32) - a5) M)) ∧ ((¬ 6 ≤ a1) → (q_Ex X d 103 22 [some (.ref 97), some (.int (a1 + 1)), some (.int a3), some (.int 0), some (.int a4), some (.int (a5 + 1)), none] [] M (q_ri K))))))) ∧ ((a1 = 1) → (((a3 < 2) → (K (((-1000) : Int32) - a5) M)) ∧ ((¬ a3 < 2) → (q_Ex X d 103 22 [some (.ref 97), some (.int (a1 + 1)), some (.int a3), some (.int 0), some (.int a4), some (.int (a5 + 1)), none] [] M (q_ri K))))))))))) : q_Ex X d 103 22 [some (.ref 97), some (.int a1), some (.int a2), some (.int a3), some (.int a4), some (.int a5), none] [] M (q_ri K) := by
  refine q_iload (pc := 22) k103_22 rfl ?_
  refine q_aload_n (pc := 24) k103_24 rfl ?_
  refine q_getIv (pc := 25) (v := M 97 6) k103_25 fg103_76 rfl rfl rfl ?_
  refine q_icmp_ge (pc := 28) 150 k103_28 (by decide) (fun g1 => ?_) (fun g1 => ?_)
  · replace h := h.1 g1
    refine q_iload_n (pc := 150) k103_150 rfl ?_
    refine q_iconst (pc := 151) (v := 2) k103_151 (by decide) ?_
    refine q_icmp_lt (pc := 152) 160 k103_152 (by decide) (fun g2 => ?_) (fun g2 => ?_)
    · replace h := h.1 g2
      refine q_sipush (pc := 160) (v := (-1000)) k103_160 (by decide) ?_
      refine q_aload_n (pc := 163) k103_163 rfl ?_
      refine q_getIv (pc := 164) (v := M 97 6) k103_164 fg103_76 rfl rfl rfl ?_
      refine q_isub (pc := 167) k103_167 ?_
      exact q_ireturn (pc := 168) k103_168 rfl ⟨_, rfl, h⟩
    · replace h := h.2 g2
      refine q_iload_n (pc := 155) k103_155 rfl ?_
      refine q_iload_n (pc := 156) k103_156 rfl ?_
      refine q_icmp_ge (pc := 157) 169 k103_157 (by decide) (fun g3 => ?_) (fun g3 => ?_)
      · replace h := h.1 g3
        refine q_aload_n (pc := 169) k103_169 rfl ?_
        refine q_getIv (pc := 170) (v := M 97 7) k103_170 fg103_84 rfl rfl rfl ?_
        refine q_aload_n (pc := 173) k103_173 rfl ?_
        refine q_getIv (pc := 174) (v := M 97 8) k103_174 fg103_87 rfl rfl rfl ?_
        refine q_icmp_ne (pc := 177) 205 k103_177 (by decide) (fun g4 => ?_) (fun g4 => ?_)
        · replace h := h.1 g4
          refine q_sipush (pc := 205) (v := (-2000)) k103_205 (by decide) ?_
          exact q_ireturn (pc := 208) k103_208 rfl ⟨_, rfl, h⟩
        · replace h := h.2 g4
          refine q_aload_n (pc := 180) k103_180 rfl ?_
          refine q_getIv (pc := 181) (v := M 97 7) k103_181 fg103_84 rfl rfl rfl ?_
          refine q_iconst (pc := 184) (v := 1) k103_184 (by decide) ?_
          refine q_icmp_eq (pc := 185) 209 k103_185 (by decide) (fun g5 => ?_) (fun g5 => ?_)
          · replace h := h.1 g5
            refine q_bipush (pc := 209) (v := 45) k103_209 (by decide) ?_
            refine q_istore (pc := 211) [some (.ref 97), some (.int a1), some (.int a2), some (.int a3), some (.int a4), some (.int 45), none] k103_211 rfl (by decide) rfl ?_
            exact q_forget [some (.ref 97), some (.int a1), some (.int a2), none, some (.int a4), some (.int 45), none] (q_subOk (And.intro rfl (And.intro rfl (And.intro rfl (And.intro rfl (And.intro rfl (trivial))))))) h
          · replace h := h.2 g5
            refine q_aload_n (pc := 188) k103_188 rfl ?_
            refine q_getIv (pc := 189) (v := M 97 7) k103_189 fg103_84 rfl rfl rfl ?_
            refine q_iconst (pc := 192) (v := 3) k103_192 (by decide) ?_
            refine q_icmp_eq (pc := 193) 209 k103_193 (by decide) (fun g6 => ?_) (fun g6 => ?_)
            · replace h := h.1 g6
              refine q_bipush (pc := 209) (v := 45) k103_209 (by decide) ?_
              refine q_istore (pc := 211) [some (.ref 97), some (.int a1), some (.int a2), some (.int a3), some (.int a4), some (.int 45), none] k103_211 rfl (by decide) rfl ?_
              exact q_forget [some (.ref 97), some (.int a1), some (.int a2), none, some (.int a4), some (.int 45), none] (q_subOk (And.intro rfl (And.intro rfl (And.intro rfl (And.intro rfl (And.intro rfl (trivial))))))) h
            · replace h := h.2 g6
              refine q_aload_n (pc := 196) k103_196 rfl ?_
              refine q_getIv (pc := 197) (v := M 97 7) k103_197 fg103_84 rfl rfl rfl ?_
              refine q_bipush (pc := 200) (v := 7) k103_200 (by decide) ?_
              refine q_icmp_eq (pc := 202) 209 k103_202 (by decide) (fun g7 => ?_) (fun g7 => ?_)
              · replace h := h.1 g7
                refine q_bipush (pc := 209) (v := 45) k103_209 (by decide) ?_
                refine q_istore (pc := 211) [some (.ref 97), some (.int a1), some (.int a2), some (.int a3), some (.int a4), some (.int 45), none] k103_211 rfl (by decide) rfl ?_
                exact q_forget [some (.ref 97), some (.int a1), some (.int a2), none, some (.int a4), some (.int 45), none] (q_subOk (And.intro rfl (And.intro rfl (And.intro rfl (And.intro rfl (And.intro rfl (trivial))))))) h
              · replace h := h.2 g7
                refine q_sipush (pc := 205) (v := (-2000)) k103_205 (by decide) ?_
                exact q_ireturn (pc := 208) k103_208 rfl ⟨_, rfl, h⟩
      · replace h := h.2 g3
        refine q_sipush (pc := 160) (v := (-1000)) k103_160 (by decide) ?_
        refine q_aload_n (pc := 163) k103_163 rfl ?_
        refine q_getIv (pc := 164) (v := M 97 6) k103_164 fg103_76 rfl rfl rfl ?_
        refine q_isub (pc := 167) k103_167 ?_
        exact q_ireturn (pc := 168) k103_168 rfl ⟨_, rfl, h⟩
  · replace h := h.2 g1
    refine q_aload_n (pc := 31) k103_31 rfl ?_
    refine q_getR (pc := 32) k103_32 fg103_22 rfl rfl ?_
    refine q_iload (pc := 35) k103_35 rfl ?_
    refine q_ialdv (pc := 37) (v := M 102 (Int32.toNatClampNeg a5)) k103_37 rfl h.1 rfl ?_
    replace h := h.2
    refine q_bipush (pc := 38) (v := 47) k103_38 (by decide) ?_
    refine q_icmp_ne (pc := 40) 101 k103_40 (by decide) (fun g8 => ?_) (fun g8 => ?_)
    · replace h := h.1 g8
      refine q_iload_n (pc := 101) k103_101 rfl ?_
      refine q_iload_n (pc := 102) k103_102 rfl ?_
      refine q_iconst (pc := 103) (v := 1) k103_103 (by decide) ?_
      refine q_icmp_ne (pc := 104) 111 k103_104 (by decide) (fun g9 => ?_) (fun g9 => ?_)
      · replace h := h.1 g9
        refine q_iload_n (pc := 111) k103_111 rfl ?_
        refine q_icmp_eq (pc := 112) 131 k103_112 (by decide) (fun g10 => ?_) (fun g10 => ?_)
        · replace h := h.1 g10
          refine q_sipush (pc := 131) (v := (-1000)) k103_131 (by decide) ?_
          refine q_iload (pc := 134) k103_134 rfl ?_
          refine q_isub (pc := 136) k103_136 ?_
          exact q_ireturn (pc := 137) k103_137 rfl ⟨_, rfl, h⟩
        · replace h := h.2 g10
          refine q_aload_n (pc := 115) k103_115 rfl ?_
          refine q_aload_n (pc := 116) k103_116 rfl ?_
          refine q_getR (pc := 117) k103_117 fg103_22 rfl rfl ?_
          refine q_iload (pc := 120) k103_120 rfl ?_
          refine q_ialdv (pc := 122) (v := M 102 (Int32.toNatClampNeg a5)) k103_122 rfl h.1 rfl ?_
          replace h := h.2
          refine q_iload (pc := 123) k103_123 rfl ?_
          refine q_invV (pc := 125) (As := [.int (M 102 (Int32.toNatClampNeg a5)), .int a4]) (st := []) k103_125 lm103_90 ov102 rfl rfl rfl (q_cat rfl) (Nat.le_of_ble_eq_true rfl) hd h ?_
          rintro v M11 ⟨r12, rfl, h⟩
          show q_Ex X d 103 (125 + 3) [some (.ref 97), some (.int a1), some (.int a2), some (.int a3), some (.int a4), some (.int a5), none] [.int r12] M11 _
          refine q_if_ne (pc := 128) 138 k103_128 (by decide) (fun g13 => ?_) (fun g13 => ?_)
          · replace h := h.1 g13
            refine q_iinc (pc := 138) (v := a3 + 1) [some (.ref 97), some (.int a1), some (.int a2), some (.int (a3 + 1)), some (.int a4), some (.int a5), none] k103_138 rfl rfl rfl (by decide) rfl ?_
            refine q_iinc (pc := 141) (v := a4 + 1) [some (.ref 97), some (.int a1), some (.int a2), some (.int (a3 + 1)), some (.int (a4 + 1)), some (.int a5), none] k103_141 rfl rfl rfl (by decide) rfl ?_
            refine q_iinc (pc := 144) (v := a5 + 1) [some (.ref 97), some (.int a1), some (.int a2), some (.int (a3 + 1)), some (.int (a4 + 1)), some (.int (a5 + 1)), none] k103_144 rfl rfl rfl (by decide) rfl ?_
            refine q_goto (pc := 147) 22 k103_147 (by decide) ?_
            exact h
          · replace h := h.2 g13
            refine q_sipush (pc := 131) (v := (-1000)) k103_131 (by decide) ?_
            refine q_iload (pc := 134) k103_134 rfl ?_
            refine q_isub (pc := 136) k103_136 ?_
            exact q_ireturn (pc := 137) k103_137 rfl ⟨_, rfl, h⟩
      · replace h := h.2 g9
        refine q_iconst (pc := 107) (v := 5) k103_107 (by decide) ?_
        refine q_goto (pc := 108) 112 k103_108 (by decide) ?_
        refine q_icmp_eq (pc := 112) 131 k103_112 (by decide) (fun g14 => ?_) (fun g14 => ?_)
        · replace h := h.1 g14
          refine q_sipush (pc := 131) (v := (-1000)) k103_131 (by decide) ?_
          refine q_iload (pc := 134) k103_134 rfl ?_
          refine q_isub (pc := 136) k103_136 ?_
          exact q_ireturn (pc := 137) k103_137 rfl ⟨_, rfl, h⟩
        · replace h := h.2 g14
          refine q_aload_n (pc := 115) k103_115 rfl ?_
          refine q_aload_n (pc := 116) k103_116 rfl ?_
          refine q_getR (pc := 117) k103_117 fg103_22 rfl rfl ?_
          refine q_iload (pc := 120) k103_120 rfl ?_
          refine q_ialdv (pc := 122) (v := M 102 (Int32.toNatClampNeg a5)) k103_122 rfl h.1 rfl ?_
          replace h := h.2
          refine q_iload (pc := 123) k103_123 rfl ?_
          refine q_invV (pc := 125) (As := [.int (M 102 (Int32.toNatClampNeg a5)), .int a4]) (st := []) k103_125 lm103_90 ov102 rfl rfl rfl (q_cat rfl) (Nat.le_of_ble_eq_true rfl) hd h ?_
          rintro v M15 ⟨r16, rfl, h⟩
          show q_Ex X d 103 (125 + 3) [some (.ref 97), some (.int a1), some (.int a2), some (.int a3), some (.int a4), some (.int a5), none] [.int r16] M15 _
          refine q_if_ne (pc := 128) 138 k103_128 (by decide) (fun g17 => ?_) (fun g17 => ?_)
          · replace h := h.1 g17
            refine q_iinc (pc := 138) (v := a3 + 1) [some (.ref 97), some (.int a1), some (.int a2), some (.int (a3 + 1)), some (.int a4), some (.int a5), none] k103_138 rfl rfl rfl (by decide) rfl ?_
            refine q_iinc (pc := 141) (v := a4 + 1) [some (.ref 97), some (.int a1), some (.int a2), some (.int (a3 + 1)), some (.int (a4 + 1)), some (.int a5), none] k103_141 rfl rfl rfl (by decide) rfl ?_
            refine q_iinc (pc := 144) (v := a5 + 1) [some (.ref 97), some (.int a1), some (.int a2), some (.int (a3 + 1)), some (.int (a4 + 1)), some (.int (a5 + 1)), none] k103_144 rfl rfl rfl (by decide) rfl ?_
            refine q_goto (pc := 147) 22 k103_147 (by decide) ?_
            exact h
          · replace h := h.2 g17
            refine q_sipush (pc := 131) (v := (-1000)) k103_131 (by decide) ?_
            refine q_iload (pc := 134) k103_134 rfl ?_
            refine q_isub (pc := 136) k103_136 ?_
            exact q_ireturn (pc := 137) k103_137 rfl ⟨_, rfl, h⟩
    · replace h := h.2 g8
      refine q_iload_n (pc := 43) k103_43 rfl ?_
      refine q_iconst (pc := 44) (v := 1) k103_44 (by decide) ?_
      refine q_icmp_ne (pc := 45) 61 k103_45 (by decide) (fun g18 => ?_) (fun g18 => ?_)
      · replace h := h.1 g18
        refine q_iload_n (pc := 61) k103_61 rfl ?_
        refine q_iload_n (pc := 62) k103_62 rfl ?_
        refine q_icmp_ne (pc := 63) 76 k103_63 (by decide) (fun g19 => ?_) (fun g19 => ?_)
        · replace h := h.1 g19
          refine q_iconst (pc := 76) (v := 0) k103_76 (by decide) ?_
          refine q_istore (pc := 77) [some (.ref 97), some (.int a1), some (.int a2), some (.int a3), some (.int a4), some (.int a5), some (.int 0)] k103_77 rfl (by decide) rfl ?_
          refine q_iload (pc := 79) k103_79 rfl ?_
          refine q_if_ne (pc := 81) 91 k103_81 (by decide) (fun g => absurd g (by decide)) (fun _ => ?_)
          refine q_sipush (pc := 84) (v := (-1000)) k103_84 (by decide) ?_
          refine q_iload (pc := 87) k103_87 rfl ?_
          refine q_isub (pc := 89) k103_89 ?_
          exact q_ireturn (pc := 90) k103_90 rfl ⟨_, rfl, h⟩
        · replace h := h.2 g19
          refine q_iload_n (pc := 66) k103_66 rfl ?_
          refine q_bipush (pc := 67) (v := 6) k103_67 (by decide) ?_
          refine q_icmp_ge (pc := 69) 76 k103_69 (by decide) (fun g20 => ?_) (fun g20 => ?_)
          · replace h := h.1 g20
            refine q_iconst (pc := 76) (v := 0) k103_76 (by decide) ?_
            refine q_istore (pc := 77) [some (.ref 97), some (.int a1), some (.int a2), some (.int a3), some (.int a4), some (.int a5), some (.int 0)] k103_77 rfl (by decide) rfl ?_
            refine q_iload (pc := 79) k103_79 rfl ?_
            refine q_if_ne (pc := 81) 91 k103_81 (by decide) (fun g => absurd g (by decide)) (fun _ => ?_)
            refine q_sipush (pc := 84) (v := (-1000)) k103_84 (by decide) ?_
            refine q_iload (pc := 87) k103_87 rfl ?_
            refine q_isub (pc := 89) k103_89 ?_
            exact q_ireturn (pc := 90) k103_90 rfl ⟨_, rfl, h⟩
          · replace h := h.2 g20
            refine q_iconst (pc := 72) (v := 1) k103_72 (by decide) ?_
            refine q_goto (pc := 73) 77 k103_73 (by decide) ?_
            refine q_istore (pc := 77) [some (.ref 97), some (.int a1), some (.int a2), some (.int a3), some (.int a4), some (.int a5), some (.int 1)] k103_77 rfl (by decide) rfl ?_
            refine q_iload (pc := 79) k103_79 rfl ?_
            refine q_if_ne (pc := 81) 91 k103_81 (by decide) (fun _ => ?_) (fun g => absurd g (by decide))
            refine q_iload_n (pc := 91) k103_91 rfl ?_
            refine q_istore_n (pc := 92) [some (.ref 97), some (.int a1), some (.int a3), some (.int a3), some (.int a4), some (.int a5), some (.int 1)] k103_92 rfl (by decide) rfl ?_
            refine q_iconst (pc := 93) (v := 0) k103_93 (by decide) ?_
            refine q_istore_n (pc := 94) [some (.ref 97), some (.int a1), some (.int a3), some (.int 0), some (.int a4), some (.int a5), some (.int 1)] k103_94 rfl (by decide) rfl ?_
            refine q_iinc (pc := 95) (v := a1 + 1) [some (.ref 97), some (.int (a1 + 1)), some (.int a3), some (.int 0), some (.int a4), some (.int a5), some (.int 1)] k103_95 rfl rfl rfl (by decide) rfl ?_
            refine q_goto (pc := 98) 144 k103_98 (by decide) ?_
            refine q_iinc (pc := 144) (v := a5 + 1) [some (.ref 97), some (.int (a1 + 1)), some (.int a3), some (.int 0), some (.int a4), some (.int (a5 + 1)), some (.int 1)] k103_144 rfl rfl rfl (by decide) rfl ?_
            refine q_goto (pc := 147) 22 k103_147 (by decide) ?_
            exact q_forget [some (.ref 97), some (.int (a1 + 1)), some (.int a3), some (.int 0), some (.int a4), some (.int (a5 + 1)), none] (q_subOk (And.intro rfl (And.intro rfl (And.intro rfl (And.intro rfl (And.intro rfl (And.intro rfl (trivial)))))))) h
      · replace h := h.2 g18
        refine q_iload_n (pc := 48) k103_48 rfl ?_
        refine q_iconst (pc := 49) (v := 2) k103_49 (by decide) ?_
        refine q_icmp_lt (pc := 50) 57 k103_50 (by decide) (fun g21 => ?_) (fun g21 => ?_)
        · replace h := h.1 g21
          refine q_iconst (pc := 57) (v := 0) k103_57 (by decide) ?_
          refine q_goto (pc := 58) 77 k103_58 (by decide) ?_
          refine q_istore (pc := 77) [some (.ref 97), some (.int a1), some (.int a2), some (.int a3), some (.int a4), some (.int a5), some (.int 0)] k103_77 rfl (by decide) rfl ?_
          refine q_iload (pc := 79) k103_79 rfl ?_
          refine q_if_ne (pc := 81) 91 k103_81 (by decide) (fun g => absurd g (by decide)) (fun _ => ?_)
          refine q_sipush (pc := 84) (v := (-1000)) k103_84 (by decide) ?_
          refine q_iload (pc := 87) k103_87 rfl ?_
          refine q_isub (pc := 89) k103_89 ?_
          exact q_ireturn (pc := 90) k103_90 rfl ⟨_, rfl, h⟩
        · replace h := h.2 g21
          refine q_iconst (pc := 53) (v := 1) k103_53 (by decide) ?_
          refine q_goto (pc := 54) 77 k103_54 (by decide) ?_
          refine q_istore (pc := 77) [some (.ref 97), some (.int a1), some (.int a2), some (.int a3), some (.int a4), some (.int a5), some (.int 1)] k103_77 rfl (by decide) rfl ?_
          refine q_iload (pc := 79) k103_79 rfl ?_
          refine q_if_ne (pc := 81) 91 k103_81 (by decide) (fun _ => ?_) (fun g => absurd g (by decide))
          refine q_iload_n (pc := 91) k103_91 rfl ?_
          refine q_istore_n (pc := 92) [some (.ref 97), some (.int a1), some (.int a3), some (.int a3), some (.int a4), some (.int a5), some (.int 1)] k103_92 rfl (by decide) rfl ?_
          refine q_iconst (pc := 93) (v := 0) k103_93 (by decide) ?_
          refine q_istore_n (pc := 94) [some (.ref 97), some (.int a1), some (.int a3), some (.int 0), some (.int a4), some (.int a5), some (.int 1)] k103_94 rfl (by decide) rfl ?_
          refine q_iinc (pc := 95) (v := a1 + 1) [some (.ref 97), some (.int (a1 + 1)), some (.int a3), some (.int 0), some (.int a4), some (.int a5), some (.int 1)] k103_95 rfl rfl rfl (by decide) rfl ?_
          refine q_goto (pc := 98) 144 k103_98 (by decide) ?_
          refine q_iinc (pc := 144) (v := a5 + 1) [some (.ref 97), some (.int (a1 + 1)), some (.int a3), some (.int 0), some (.int a4), some (.int (a5 + 1)), some (.int 1)] k103_144 rfl rfl rfl (by decide) rfl ?_
          refine q_goto (pc := 147) 22 k103_147 (by decide) ?_
          exact q_forget [some (.ref 97), some (.int (a1 + 1)), some (.int a3), some (.int 0), some (.int a4), some (.int (a5 + 1)), none] (q_subOk (And.intro rfl (And.intro rfl (And.intro rfl (And.intro rfl (And.intro rfl (And.intro rfl (trivial)))))))) h
set_option maxRecDepth 20000 in
theorem vc103_p213 {X : Nat × (Nat → Int32)} {d : Nat} {M : q_M} {a1 a2 a4 a5 : Int32} {K : Int32 → q_M → Prop} (h : ((((45 : Int32) + ((3 : Int32) * a4)) ≤ a5) → (((¬ (M 97 7) = 1) → (((¬ (M 97 7) = 3) → (q_Ex X d 103 301 [some (.ref 97), none, none, none, some (.int a4), some (.int 0), none] [] (q_set (q_set (q_set (q_set M 99 0 a1) 99 1 a2) 99 2 3) 99 7 0) (q_ri K))) ∧ (((M 97 7) = 3) → (q_Ex X d 103 301 [some (.ref 97), none, none, none, some (.int a4), some (.int 0), none] [] (q_set (q_set (q_set (q_set M 99 0 a1) 99 1 a2) 99 2 2) 99 7 0) (q_ri K))))) ∧ (((M 97 7) = 1) → (q_Ex X d 103 301 [some (.ref 97), none, none, none, some (.int a4), some (.int 0), none] [] (q_set (q_set (q_set (q_set M 99 0 a1) 99 1 a2) 99 2 1) 99 7 0) (q_ri K))))) ∧ ((¬ ((45 : Int32) + ((3 : Int32) * a4)) ≤ a5) → (vp_in a5 135 ∧ (vp_in a5 135 ∧ (q_Ex X d 103 213 [some (.ref 97), some (.int a1), some (.int a2), none, some (.int a4), some (.int (a5 + 1)), none] [] (q_set M 99 (Int32.toNatClampNeg a5) (M 101 (Int32.toNatClampNeg a5))) (q_ri K)))))) : q_Ex X d 103 213 [some (.ref 97), some (.int a1), some (.int a2), none, some (.int a4), some (.int a5), none] [] M (q_ri K) := by
  refine q_iload (pc := 213) k103_213 rfl ?_
  refine q_bipush (pc := 215) (v := 45) k103_215 (by decide) ?_
  refine q_iconst (pc := 217) (v := 3) k103_217 (by decide) ?_
  refine q_iload (pc := 218) k103_218 rfl ?_
  refine q_imul (pc := 220) k103_220 ?_
  refine q_iadd (pc := 221) k103_221 ?_
  refine q_icmp_ge (pc := 222) 245 k103_222 (by decide) (fun g1 => ?_) (fun g1 => ?_)
  · replace h := h.1 g1
    refine q_aload_n (pc := 245) k103_245 rfl ?_
    refine q_getR (pc := 246) k103_246 fg103_13 rfl rfl ?_
    refine q_iconst (pc := 249) (v := 0) k103_249 (by decide) ?_
    refine q_iload_n (pc := 250) k103_250 rfl ?_
    refine q_iastv (pc := 251) (k := 0) k103_251 rfl (q_vin (by decide)) rfl ?_
    refine q_aload_n (pc := 252) k103_252 rfl ?_
    refine q_getR (pc := 253) k103_253 fg103_13 rfl rfl ?_
    refine q_iconst (pc := 256) (v := 1) k103_256 (by decide) ?_
    refine q_iload_n (pc := 257) k103_257 rfl ?_
    refine q_iastv (pc := 258) (k := 1) k103_258 rfl (q_vin (by decide)) rfl ?_
    refine q_aload_n (pc := 259) k103_259 rfl ?_
    refine q_getR (pc := 260) k103_260 fg103_13 rfl rfl ?_
    refine q_iconst (pc := 263) (v := 2) k103_263 (by decide) ?_
    refine q_aload_n (pc := 264) k103_264 rfl ?_
    refine q_getIv (pc := 265) (v := M 97 7) k103_265 fg103_84 rfl rfl rfl ?_
    refine q_iconst (pc := 268) (v := 1) k103_268 (by decide) ?_
    refine q_icmp_ne (pc := 269) 276 k103_269 (by decide) (fun g2 => ?_) (fun g2 => ?_)
    · replace h := h.1 g2
      refine q_aload_n (pc := 276) k103_276 rfl ?_
      refine q_getIv (pc := 277) (v := M 97 7) k103_277 fg103_84 rfl rfl rfl ?_
      refine q_iconst (pc := 280) (v := 3) k103_280 (by decide) ?_
      refine q_icmp_ne (pc := 281) 288 k103_281 (by decide) (fun g3 => ?_) (fun g3 => ?_)
      · replace h := h.1 g3
        refine q_iconst (pc := 288) (v := 3) k103_288 (by decide) ?_
        refine q_iastv (pc := 289) (k := 2) k103_289 rfl (q_vin (by decide)) rfl ?_
        refine q_aload_n (pc := 290) k103_290 rfl ?_
        refine q_getR (pc := 291) k103_291 fg103_13 rfl rfl ?_
        refine q_bipush (pc := 294) (v := 7) k103_294 (by decide) ?_
        refine q_iconst (pc := 296) (v := 0) k103_296 (by decide) ?_
        refine q_iastv (pc := 297) (k := 7) k103_297 rfl (q_vin (by decide)) rfl ?_
        refine q_iconst (pc := 298) (v := 0) k103_298 (by decide) ?_
        refine q_istore (pc := 299) [some (.ref 97), some (.int a1), some (.int a2), none, some (.int a4), some (.int 0), none] k103_299 rfl (by decide) rfl ?_
        exact q_forget [some (.ref 97), none, none, none, some (.int a4), some (.int 0), none] (q_subOk (And.intro rfl (And.intro rfl (And.intro rfl (trivial))))) h
      · replace h := h.2 g3
        refine q_iconst (pc := 284) (v := 2) k103_284 (by decide) ?_
        refine q_goto (pc := 285) 289 k103_285 (by decide) ?_
        refine q_iastv (pc := 289) (k := 2) k103_289 rfl (q_vin (by decide)) rfl ?_
        refine q_aload_n (pc := 290) k103_290 rfl ?_
        refine q_getR (pc := 291) k103_291 fg103_13 rfl rfl ?_
        refine q_bipush (pc := 294) (v := 7) k103_294 (by decide) ?_
        refine q_iconst (pc := 296) (v := 0) k103_296 (by decide) ?_
        refine q_iastv (pc := 297) (k := 7) k103_297 rfl (q_vin (by decide)) rfl ?_
        refine q_iconst (pc := 298) (v := 0) k103_298 (by decide) ?_
        refine q_istore (pc := 299) [some (.ref 97), some (.int a1), some (.int a2), none, some (.int a4), some (.int 0), none] k103_299 rfl (by decide) rfl ?_
        exact q_forget [some (.ref 97), none, none, none, some (.int a4), some (.int 0), none] (q_subOk (And.intro rfl (And.intro rfl (And.intro rfl (trivial))))) h
    · replace h := h.2 g2
      refine q_iconst (pc := 272) (v := 1) k103_272 (by decide) ?_
      refine q_goto (pc := 273) 289 k103_273 (by decide) ?_
      refine q_iastv (pc := 289) (k := 2) k103_289 rfl (q_vin (by decide)) rfl ?_
      refine q_aload_n (pc := 290) k103_290 rfl ?_
      refine q_getR (pc := 291) k103_291 fg103_13 rfl rfl ?_
      refine q_bipush (pc := 294) (v := 7) k103_294 (by decide) ?_
      refine q_iconst (pc := 296) (v := 0) k103_296 (by decide) ?_
      refine q_iastv (pc := 297) (k := 7) k103_297 rfl (q_vin (by decide)) rfl ?_
      refine q_iconst (pc := 298) (v := 0) k103_298 (by decide) ?_
      refine q_istore (pc := 299) [some (.ref 97), some (.int a1), some (.int a2), none, some (.int a4), some (.int 0), none] k103_299 rfl (by decide) rfl ?_
      exact q_forget [some (.ref 97), none, none, none, some (.int a4), some (.int 0), none] (q_subOk (And.intro rfl (And.intro rfl (And.intro rfl (trivial))))) h
  · replace h := h.2 g1
    refine q_aload_n (pc := 225) k103_225 rfl ?_
    refine q_getR (pc := 226) k103_226 fg103_13 rfl rfl ?_
    refine q_iload (pc := 229) k103_229 rfl ?_
    refine q_aload_n (pc := 231) k103_231 rfl ?_
    refine q_getR (pc := 232) k103_232 fg103_19 rfl rfl ?_
    refine q_iload (pc := 235) k103_235 rfl ?_
    refine q_ialdv (pc := 237) (v := M 101 (Int32.toNatClampNeg a5)) k103_237 rfl h.1 rfl ?_
    replace h := h.2
    refine q_iastv (pc := 238) (k := (Int32.toNatClampNeg a5)) k103_238 rfl h.1 rfl ?_
    replace h := h.2
    refine q_iinc (pc := 239) (v := a5 + 1) [some (.ref 97), some (.int a1), some (.int a2), none, some (.int a4), some (.int (a5 + 1)), none] k103_239 rfl rfl rfl (by decide) rfl ?_
    refine q_goto (pc := 242) 213 k103_242 (by decide) ?_
    exact h
set_option maxRecDepth 20000 in
theorem vc103_p301 {X : Nat × (Nat → Int32)} {d : Nat} {M : q_M} {a4 a5 : Int32} {K : Int32 → q_M → Prop} (h : ((3 ≤ a5) → (K a4 M)) ∧ ((¬ 3 ≤ a5) → (vp_in ((4 : Int32) + a5) 135 ∧ (vp_in ((12 : Int32) + a5) 135 ∧ (q_Ex X d 103 301 [some (.ref 97), none, none, none, some (.int a4), some (.int (a5 + 1)), none] [] (q_set (q_set M 99 (Int32.toNatClampNeg ((4 : Int32) + a5)) a5) 99 (Int32.toNatClampNeg ((12 : Int32) + a5)) 0) (q_ri K)))))) : q_Ex X d 103 301 [some (.ref 97), none, none, none, some (.int a4), some (.int a5), none] [] M (q_ri K) := by
  refine q_iload (pc := 301) k103_301 rfl ?_
  refine q_iconst (pc := 303) (v := 3) k103_303 (by decide) ?_
  refine q_icmp_ge (pc := 304) 335 k103_304 (by decide) (fun g1 => ?_) (fun g1 => ?_)
  · replace h := h.1 g1
    refine q_iload (pc := 335) k103_335 rfl ?_
    exact q_ireturn (pc := 337) k103_337 rfl ⟨_, rfl, h⟩
  · replace h := h.2 g1
    refine q_aload_n (pc := 307) k103_307 rfl ?_
    refine q_getR (pc := 308) k103_308 fg103_13 rfl rfl ?_
    refine q_iconst (pc := 311) (v := 4) k103_311 (by decide) ?_
    refine q_iload (pc := 312) k103_312 rfl ?_
    refine q_iadd (pc := 314) k103_314 ?_
    refine q_iload (pc := 315) k103_315 rfl ?_
    refine q_iastv (pc := 317) (k := (Int32.toNatClampNeg ((4 : Int32) + a5))) k103_317 rfl h.1 rfl ?_
    replace h := h.2
    refine q_aload_n (pc := 318) k103_318 rfl ?_
    refine q_getR (pc := 319) k103_319 fg103_13 rfl rfl ?_
    refine q_bipush (pc := 322) (v := 12) k103_322 (by decide) ?_
    refine q_iload (pc := 324) k103_324 rfl ?_
    refine q_iadd (pc := 326) k103_326 ?_
    refine q_iconst (pc := 327) (v := 0) k103_327 (by decide) ?_
    refine q_iastv (pc := 328) (k := (Int32.toNatClampNeg ((12 : Int32) + a5))) k103_328 rfl h.1 rfl ?_
    replace h := h.2
    refine q_iinc (pc := 329) (v := a5 + 1) [some (.ref 97), none, none, none, some (.int a4), some (.int (a5 + 1)), none] k103_329 rfl rfl rfl (by decide) rfl ?_
    refine q_goto (pc := 332) 301 k103_332 (by decide) ?_
    exact h
set_option maxRecDepth 20000 in
theorem vc104 {X : Nat × (Nat → Int32)} {d : Nat} (hd : 0 < d) {M : q_M} {K : Int32 → q_M → Prop} (h : q_Ci X (d - 1) 103 [.ref 97] M (fun r2 M1 => K r2 (q_set M1 97 6 0))) : q_Ci X d 104 [.ref 97] M K := by
  show q_Ex X d 104 0 [some (.ref 97), none] [] M (q_ri K)
  refine q_aload_n (pc := 0) k104_0 rfl ?_
  refine q_invV (pc := 1) (As := []) (st := []) k104_1 lm104_93 ov103 rfl rfl rfl (q_cat rfl) (Nat.le_of_ble_eq_true rfl) hd h ?_
  rintro v M1 ⟨r2, rfl, h⟩
  show q_Ex X d 104 (1 + 3) [some (.ref 97), none] [.int r2] M1 _
  refine q_istore_n (pc := 4) [some (.ref 97), some (.int r2)] k104_4 rfl (by decide) rfl ?_
  refine q_aload_n (pc := 5) k104_5 rfl ?_
  refine q_iconst (pc := 6) (v := 0) k104_6 (by decide) ?_
  refine q_putI (pc := 7) k104_7 fp104_76 rfl rfl ?_
  refine q_iload_n (pc := 10) k104_10 rfl ?_
  exact q_ireturn (pc := 11) k104_11 rfl ⟨_, rfl, h⟩
set_option maxRecDepth 20000 in
theorem vc105 {X : Nat × (Nat → Int32)} {d : Nat} (hd : 0 < d) {M : q_M} {a1 a2 : Int32} {K : Int32 → q_M → Prop} (h : q_Ci X (d - 1) 96 [.ref 97, .int a1] M (fun r2 M1 => ((¬ r2 = 0) → (q_Ci X (d - 1) 92 [.int a2, .int 3] M1 (fun r5 M4 => ((r5 = 0) → (q_Ci X (d - 1) 91 [.ref 97, .int (-2)] M4 (fun r8 M7 => K r8 M7))) ∧ ((¬ r5 = 0) → (vp_in (((45 : Int32) + ((3 : Int32) * a1)) + a2) 135 ∧ (K (M4 99 (Int32.toNatClampNeg (((45 : Int32) + ((3 : Int32) * a1)) + a2))) M4)))))) ∧ ((r2 = 0) → (q_Ci X (d - 1) 91 [.ref 97, .int (-1)] M1 (fun r10 M9 => K r10 M9))))) : q_Ci X d 105 [.ref 97, .int a1, .int a2] M K := by
  show q_Ex X d 105 0 [some (.ref 97), some (.int a1), some (.int a2)] [] M (q_ri K)
  refine q_aload_n (pc := 0) k105_0 rfl ?_
  refine q_iload_n (pc := 1) k105_1 rfl ?_
  refine q_invV (pc := 2) (As := [.int a1]) (st := []) k105_2 lm105_96 ov96 rfl rfl rfl (q_cat rfl) (Nat.le_of_ble_eq_true rfl) hd h ?_
  rintro v M1 ⟨r2, rfl, h⟩
  show q_Ex X d 105 (2 + 3) [some (.ref 97), some (.int a1), some (.int a2)] [.int r2] M1 _
  refine q_if_ne (pc := 5) 16 k105_5 (by decide) (fun g3 => ?_) (fun g3 => ?_)
  · replace h := h.1 g3
    refine q_iload_n (pc := 16) k105_16 rfl ?_
    refine q_iconst (pc := 17) (v := 3) k105_17 (by decide) ?_
    refine q_invS (pc := 18) (As := [.int a2, .int 3]) (st := []) k105_18 lm105_68 os92 rfl rfl (q_cat rfl) (Nat.le_of_ble_eq_true rfl) hd h ?_
    rintro v M4 ⟨r5, rfl, h⟩
    show q_Ex X d 105 (18 + 3) [some (.ref 97), some (.int a1), some (.int a2)] [.int r5] M4 _
    refine q_if_eq (pc := 21) 40 k105_21 (by decide) (fun g6 => ?_) (fun g6 => ?_)
    · replace h := h.1 g6
      refine q_aload_n (pc := 40) k105_40 rfl ?_
      refine q_bipush (pc := 41) (v := (-2)) k105_41 (by decide) ?_
      refine q_invV (pc := 43) (As := [.int (-2)]) (st := []) k105_43 lm105_80 ov91 rfl rfl rfl (q_cat rfl) (Nat.le_of_ble_eq_true rfl) hd h ?_
      rintro v M7 ⟨r8, rfl, h⟩
      show q_Ex X d 105 (43 + 3) [some (.ref 97), some (.int a1), some (.int a2)] [.int r8] M7 _
      exact q_ireturn (pc := 46) k105_46 rfl ⟨_, rfl, h⟩
    · replace h := h.2 g6
      refine q_aload_n (pc := 24) k105_24 rfl ?_
      refine q_getR (pc := 25) k105_25 fg105_13 rfl rfl ?_
      refine q_bipush (pc := 28) (v := 45) k105_28 (by decide) ?_
      refine q_iconst (pc := 30) (v := 3) k105_30 (by decide) ?_
      refine q_iload_n (pc := 31) k105_31 rfl ?_
      refine q_imul (pc := 32) k105_32 ?_
      refine q_iadd (pc := 33) k105_33 ?_
      refine q_iload_n (pc := 34) k105_34 rfl ?_
      refine q_iadd (pc := 35) k105_35 ?_
      refine q_ialdv (pc := 36) (v := M4 99 (Int32.toNatClampNeg (((45 : Int32) + ((3 : Int32) * a1)) + a2))) k105_36 rfl h.1 rfl ?_
      replace h := h.2
      refine q_goto (pc := 37) 46 k105_37 (by decide) ?_
      exact q_ireturn (pc := 46) k105_46 rfl ⟨_, rfl, h⟩
  · replace h := h.2 g3
    refine q_aload_n (pc := 8) k105_8 rfl ?_
    refine q_iconst (pc := 9) (v := (-1)) k105_9 (by decide) ?_
    refine q_invV (pc := 10) (As := [.int (-1)]) (st := []) k105_10 lm105_80 ov91 rfl rfl rfl (q_cat rfl) (Nat.le_of_ble_eq_true rfl) hd h ?_
    rintro v M9 ⟨r10, rfl, h⟩
    show q_Ex X d 105 (10 + 3) [some (.ref 97), some (.int a1), some (.int a2)] [.int r10] M9 _
    refine q_goto (pc := 13) 46 k105_13 (by decide) ?_
    exact q_ireturn (pc := 46) k105_46 rfl ⟨_, rfl, h⟩
set_option maxRecDepth 20000 in
theorem vc106 {X : Nat × (Nat → Int32)} {d : Nat} (hd : 0 < d) {M : q_M} {a1 : Int32} {K : Int32 → q_M → Prop} (h : q_Ci X (d - 1) 92 [.int a1, .int 5] M (fun r2 M1 => ((¬ r2 = 0) → (K (M1 99 3) (q_set M1 99 3 a1))) ∧ ((r2 = 0) → (q_Ci X (d - 1) 91 [.ref 97, .int (-2)] M1 (fun r5 M4 => K r5 M4))))) : q_Ci X d 106 [.ref 97, .int a1] M K := by
  show q_Ex X d 106 0 [some (.ref 97), some (.int a1), none] [] M (q_ri K)
  refine q_iload_n (pc := 0) k106_0 rfl ?_
  refine q_iconst (pc := 1) (v := 5) k106_1 (by decide) ?_
  refine q_invS (pc := 2) (As := [.int a1, .int 5]) (st := []) k106_2 lm106_68 os92 rfl rfl (q_cat rfl) (Nat.le_of_ble_eq_true rfl) hd h ?_
  rintro v M1 ⟨r2, rfl, h⟩
  show q_Ex X d 106 (2 + 3) [some (.ref 97), some (.int a1), none] [.int r2] M1 _
  refine q_if_ne (pc := 5) 15 k106_5 (by decide) (fun g3 => ?_) (fun g3 => ?_)
  · replace h := h.1 g3
    refine q_aload_n (pc := 15) k106_15 rfl ?_
    refine q_getR (pc := 16) k106_16 fg106_13 rfl rfl ?_
    refine q_iconst (pc := 19) (v := 3) k106_19 (by decide) ?_
    refine q_ialdv (pc := 20) (v := M1 99 3) k106_20 rfl (q_vin (by decide)) rfl ?_
    refine q_istore_n (pc := 21) [some (.ref 97), some (.int a1), some (.int (M1 99 3))] k106_21 rfl (by decide) rfl ?_
    refine q_aload_n (pc := 22) k106_22 rfl ?_
    refine q_getR (pc := 23) k106_23 fg106_13 rfl rfl ?_
    refine q_iconst (pc := 26) (v := 3) k106_26 (by decide) ?_
    refine q_iload_n (pc := 27) k106_27 rfl ?_
    refine q_iastv (pc := 28) (k := 3) k106_28 rfl (q_vin (by decide)) rfl ?_
    refine q_iload_n (pc := 29) k106_29 rfl ?_
    exact q_ireturn (pc := 30) k106_30 rfl ⟨_, rfl, h⟩
  · replace h := h.2 g3
    refine q_aload_n (pc := 8) k106_8 rfl ?_
    refine q_bipush (pc := 9) (v := (-2)) k106_9 (by decide) ?_
    refine q_invV (pc := 11) (As := [.int (-2)]) (st := []) k106_11 lm106_80 ov91 rfl rfl rfl (q_cat rfl) (Nat.le_of_ble_eq_true rfl) hd h ?_
    rintro v M4 ⟨r5, rfl, h⟩
    show q_Ex X d 106 (11 + 3) [some (.ref 97), some (.int a1), none] [.int r5] M4 _
    exact q_ireturn (pc := 14) k106_14 rfl ⟨_, rfl, h⟩
set_option maxRecDepth 20000 in
theorem vc107 {X : Nat × (Nat → Int32)} {d : Nat} {M : q_M} {K : Int32 → q_M → Prop} (h : q_Ex X d 107 11 [some (.ref 97), some (.int 0), some (.int ((M 99 2) - 1))] [] M (q_ri K)) : q_Ci X d 107 [.ref 97] M K := by
  show q_Ex X d 107 0 [some (.ref 97), none, none] [] M (q_ri K)
  refine q_iconst (pc := 0) (v := 0) k107_0 (by decide) ?_
  refine q_istore_n (pc := 1) [some (.ref 97), some (.int 0), none] k107_1 rfl (by decide) rfl ?_
  refine q_aload_n (pc := 2) k107_2 rfl ?_
  refine q_getR (pc := 3) k107_3 fg107_13 rfl rfl ?_
  refine q_iconst (pc := 6) (v := 2) k107_6 (by decide) ?_
  refine q_ialdv (pc := 7) (v := M 99 2) k107_7 rfl (q_vin (by decide)) rfl ?_
  refine q_iconst (pc := 8) (v := 1) k107_8 (by decide) ?_
  refine q_isub (pc := 9) k107_9 ?_
  refine q_istore_n (pc := 10) [some (.ref 97), some (.int 0), some (.int ((M 99 2) - 1))] k107_10 rfl (by decide) rfl ?_
  exact h
set_option maxRecDepth 20000 in
theorem vc107_p11 {X : Nat × (Nat → Int32)} {d : Nat} {M : q_M} {a1 a2 : Int32} {K : Int32 → q_M → Prop} (h : ((a2 < 0) → (K a1 M)) ∧ ((¬ a2 < 0) → (vp_in ((4 : Int32) + a2) 135 ∧ (q_Ex X d 107 11 [some (.ref 97), some (.int (((10 : Int32) * a1) + (M 99 (Int32.toNatClampNeg ((4 : Int32) + a2))))), some (.int (a2 + (-1)))] [] M (q_ri K))))) : q_Ex X d 107 11 [some (.ref 97), some (.int a1), some (.int a2)] [] M (q_ri K) := by
  refine q_iload_n (pc := 11) k107_11 rfl ?_
  refine q_if_lt (pc := 12) 35 k107_12 (by decide) (fun g1 => ?_) (fun g1 => ?_)
  · replace h := h.1 g1
    refine q_iload_n (pc := 35) k107_35 rfl ?_
    exact q_ireturn (pc := 36) k107_36 rfl ⟨_, rfl, h⟩
  · replace h := h.2 g1
    refine q_bipush (pc := 15) (v := 10) k107_15 (by decide) ?_
    refine q_iload_n (pc := 17) k107_17 rfl ?_
    refine q_imul (pc := 18) k107_18 ?_
    refine q_aload_n (pc := 19) k107_19 rfl ?_
    refine q_getR (pc := 20) k107_20 fg107_13 rfl rfl ?_
    refine q_iconst (pc := 23) (v := 4) k107_23 (by decide) ?_
    refine q_iload_n (pc := 24) k107_24 rfl ?_
    refine q_iadd (pc := 25) k107_25 ?_
    refine q_ialdv (pc := 26) (v := M 99 (Int32.toNatClampNeg ((4 : Int32) + a2))) k107_26 rfl h.1 rfl ?_
    replace h := h.2
    refine q_iadd (pc := 27) k107_27 ?_
    refine q_istore_n (pc := 28) [some (.ref 97), some (.int (((10 : Int32) * a1) + (M 99 (Int32.toNatClampNeg ((4 : Int32) + a2))))), some (.int a2)] k107_28 rfl (by decide) rfl ?_
    refine q_iinc (pc := 29) (v := a2 + (-1)) [some (.ref 97), some (.int (((10 : Int32) * a1) + (M 99 (Int32.toNatClampNeg ((4 : Int32) + a2))))), some (.int (a2 + (-1)))] k107_29 rfl rfl rfl (by decide) rfl ?_
    refine q_goto (pc := 32) 11 k107_32 (by decide) ?_
    exact h
set_option maxRecDepth 20000 in
theorem vc108 {X : Nat × (Nat → Int32)} {d : Nat} {M : q_M} {a1 : Int32} {K : Int32 → q_M → Prop} (h : q_Ex X d 108 7 [some (.ref 97), some (.int a1), some (.int a1), some (.int 0), some (.int 0)] [] M (q_ri K)) : q_Ci X d 108 [.ref 97, .int a1] M K := by
  show q_Ex X d 108 0 [some (.ref 97), some (.int a1), none, none, none] [] M (q_ri K)
  refine q_iload_n (pc := 0) k108_0 rfl ?_
  refine q_istore_n (pc := 1) [some (.ref 97), some (.int a1), some (.int a1), none, none] k108_1 rfl (by decide) rfl ?_
  refine q_iconst (pc := 2) (v := 0) k108_2 (by decide) ?_
  refine q_istore_n (pc := 3) [some (.ref 97), some (.int a1), some (.int a1), some (.int 0), none] k108_3 rfl (by decide) rfl ?_
  refine q_iconst (pc := 4) (v := 0) k108_4 (by decide) ?_
  refine q_istore (pc := 5) [some (.ref 97), some (.int a1), some (.int a1), some (.int 0), some (.int 0)] k108_5 rfl (by decide) rfl ?_
  exact h
set_option maxRecDepth 20000 in
theorem vc108_p7 {X : Nat × (Nat → Int32)} {d : Nat} {M : q_M} {a1 a2 a3 a4 : Int32} {K : Int32 → q_M → Prop} (h : (((M 99 2) ≤ a4) → (((a1 < 0) → (K 0 M)) ∧ ((¬ a1 < 0) → (((¬ a2 = 0) → (K 0 M)) ∧ ((a2 = 0) → (((¬ a3 = (((1 : Int32) <<< ((M 99 2) &&& 31)) - 1)) → (K 0 M)) ∧ ((a3 = (((1 : Int32) <<< ((M 99 2) &&& 31)) - 1)) → (K 1 M)))))))) ∧ ((¬ (M 99 2) ≤ a4) → (((a1 < 0) → (K 0 M)) ∧ ((¬ a1 < 0) → (vp_in a4 3 ∧ (q_Ex X d 108 7 [some (.ref 97), some (.int a1), some (.int (a2 / 10)), some (.int (a3 ||| ((1 : Int32) <<< ((a2 - a2 / 10 * 10) &&& 31)))), some (.int (a4 + 1))] [] (q_set M 103 (Int32.toNatClampNeg a4) (a2 - a2 / 10 * 10)) (q_ri K))))))) : q_Ex X d 108 7 [some (.ref 97), some (.int a1), some (.int a2), some (.int a3), some (.int a4)] [] M (q_ri K) := by
  refine q_iload (pc := 7) k108_7 rfl ?_
  refine q_aload_n (pc := 9) k108_9 rfl ?_
  refine q_getR (pc := 10) k108_10 fg108_13 rfl rfl ?_
  refine q_iconst (pc := 13) (v := 2) k108_13 (by decide) ?_
  refine q_ialdv (pc := 14) (v := M 99 2) k108_14 rfl (q_vin (by decide)) rfl ?_
  refine q_icmp_ge (pc := 15) 53 k108_15 (by decide) (fun g1 => ?_) (fun g1 => ?_)
  · replace h := h.1 g1
    refine q_iload_n (pc := 53) k108_53 rfl ?_
    refine q_if_lt (pc := 54) 79 k108_54 (by decide) (fun g2 => ?_) (fun g2 => ?_)
    · replace h := h.1 g2
      refine q_iconst (pc := 79) (v := 0) k108_79 (by decide) ?_
      exact q_zreturn (pc := 80) k108_80 rfl (by decide) ⟨_, rfl, h⟩
    · replace h := h.2 g2
      refine q_iload_n (pc := 57) k108_57 rfl ?_
      refine q_if_ne (pc := 58) 79 k108_58 (by decide) (fun g3 => ?_) (fun g3 => ?_)
      · replace h := h.1 g3
        refine q_iconst (pc := 79) (v := 0) k108_79 (by decide) ?_
        exact q_zreturn (pc := 80) k108_80 rfl (by decide) ⟨_, rfl, h⟩
      · replace h := h.2 g3
        refine q_iload_n (pc := 61) k108_61 rfl ?_
        refine q_iconst (pc := 62) (v := 1) k108_62 (by decide) ?_
        refine q_aload_n (pc := 63) k108_63 rfl ?_
        refine q_getR (pc := 64) k108_64 fg108_13 rfl rfl ?_
        refine q_iconst (pc := 67) (v := 2) k108_67 (by decide) ?_
        refine q_ialdv (pc := 68) (v := M 99 2) k108_68 rfl (q_vin (by decide)) rfl ?_
        refine q_ishl (pc := 69) k108_69 ?_
        refine q_iconst (pc := 70) (v := 1) k108_70 (by decide) ?_
        refine q_isub (pc := 71) k108_71 ?_
        refine q_icmp_ne (pc := 72) 79 k108_72 (by decide) (fun g4 => ?_) (fun g4 => ?_)
        · replace h := h.1 g4
          refine q_iconst (pc := 79) (v := 0) k108_79 (by decide) ?_
          exact q_zreturn (pc := 80) k108_80 rfl (by decide) ⟨_, rfl, h⟩
        · replace h := h.2 g4
          refine q_iconst (pc := 75) (v := 1) k108_75 (by decide) ?_
          refine q_goto (pc := 76) 80 k108_76 (by decide) ?_
          exact q_zreturn (pc := 80) k108_80 rfl (by decide) ⟨_, rfl, h⟩
  · replace h := h.2 g1
    refine q_iload_n (pc := 18) k108_18 rfl ?_
    refine q_if_lt (pc := 19) 53 k108_19 (by decide) (fun g5 => ?_) (fun g5 => ?_)
    · replace h := h.1 g5
      refine q_iload_n (pc := 53) k108_53 rfl ?_
      refine q_if_lt (pc := 54) 79 k108_54 (by decide) (fun _ => ?_) (fun g => absurd g5 g)
      refine q_iconst (pc := 79) (v := 0) k108_79 (by decide) ?_
      exact q_zreturn (pc := 80) k108_80 rfl (by decide) ⟨_, rfl, h⟩
    · replace h := h.2 g5
      refine q_aload_n (pc := 22) k108_22 rfl ?_
      refine q_getR (pc := 23) k108_23 fg108_25 rfl rfl ?_
      refine q_iload (pc := 26) k108_26 rfl ?_
      refine q_iload_n (pc := 28) k108_28 rfl ?_
      refine q_bipush (pc := 29) (v := 10) k108_29 (by decide) ?_
      refine q_irem (pc := 31) k108_31 (by decide) ?_
      refine q_iastv (pc := 32) (k := (Int32.toNatClampNeg a4)) k108_32 rfl h.1 rfl ?_
      replace h := h.2
      refine q_iload_n (pc := 33) k108_33 rfl ?_
      refine q_iconst (pc := 34) (v := 1) k108_34 (by decide) ?_
      refine q_iload_n (pc := 35) k108_35 rfl ?_
      refine q_bipush (pc := 36) (v := 10) k108_36 (by decide) ?_
      refine q_irem (pc := 38) k108_38 (by decide) ?_
      refine q_ishl (pc := 39) k108_39 ?_
      refine q_ior (pc := 40) k108_40 ?_
      refine q_istore_n (pc := 41) [some (.ref 97), some (.int a1), some (.int a2), some (.int (a3 ||| ((1 : Int32) <<< ((a2 - a2 / 10 * 10) &&& 31)))), some (.int a4)] k108_41 rfl (by decide) rfl ?_
      refine q_iload_n (pc := 42) k108_42 rfl ?_
      refine q_bipush (pc := 43) (v := 10) k108_43 (by decide) ?_
      refine q_idiv (pc := 45) k108_45 (by decide) ?_
      refine q_istore_n (pc := 46) [some (.ref 97), some (.int a1), some (.int (a2 / 10)), some (.int (a3 ||| ((1 : Int32) <<< ((a2 - a2 / 10 * 10) &&& 31)))), some (.int a4)] k108_46 rfl (by decide) rfl ?_
      refine q_iinc (pc := 47) (v := a4 + 1) [some (.ref 97), some (.int a1), some (.int (a2 / 10)), some (.int (a3 ||| ((1 : Int32) <<< ((a2 - a2 / 10 * 10) &&& 31)))), some (.int (a4 + 1))] k108_47 rfl rfl rfl (by decide) rfl ?_
      refine q_goto (pc := 50) 7 k108_50 (by decide) ?_
      exact h
