set_option maxRecDepth 20000 in
theorem vc146 {X : Nat × (Nat → Int32)} {d : Nat} {M : q_M} {a0 a1 a2 : Int32} {K : Int32 → q_M → Prop} (h : q_Ex X d 146 8 [some (.int a0), some (.int a1), some (.int a2), some (.int 1), some (.int 1), some (.int 1), none, none] [] M (q_ri K)) : q_Ci X d 146 [.int a0, .int a1, .int a2] M K := by
  show q_Ex X d 146 0 [some (.int a0), some (.int a1), some (.int a2), none, none, none, none, none] [] M (q_ri K)
  refine q_iconst (pc := 0) (v := 1) k146_0 (by decide) ?_
  refine q_istore_n (pc := 1) [some (.int a0), some (.int a1), some (.int a2), some (.int 1), none, none, none, none] k146_1 rfl (by decide) rfl ?_
  refine q_iconst (pc := 2) (v := 1) k146_2 (by decide) ?_
  refine q_istore (pc := 3) [some (.int a0), some (.int a1), some (.int a2), some (.int 1), some (.int 1), none, none, none] k146_3 rfl (by decide) rfl ?_
  refine q_iconst (pc := 5) (v := 1) k146_5 (by decide) ?_
  refine q_istore (pc := 6) [some (.int a0), some (.int a1), some (.int a2), some (.int 1), some (.int 1), some (.int 1), none, none] k146_6 rfl (by decide) rfl ?_
  exact h
set_option maxRecDepth 20000 in
theorem vc146_p8 {X : Nat × (Nat → Int32)} {d : Nat} {M : q_M} {a0 a1 a2 a3 a4 a5 : Int32} {K : Int32 → q_M → Prop} (h : ((a0 < a5) → (¬ a4 = 0 ∧ (K (a3 / a4) M))) ∧ ((¬ a0 < a5) → (q_Ex X d 146 17 [some (.int a0), some (.int a1), some (.int a2), some (.int a3), some (.int a4), some (.int a5), some (.int 1), none] [] M (q_ri K)))) : q_Ex X d 146 8 [some (.int a0), some (.int a1), some (.int a2), some (.int a3), some (.int a4), some (.int a5), none, none] [] M (q_ri K) := by
  refine q_iload (pc := 8) k146_8 rfl ?_
  refine q_iload_n (pc := 10) k146_10 rfl ?_
  refine q_icmp_gt (pc := 11) 79 k146_11 (by decide) (fun g => ?_) (fun g => ?_)
  · replace h := h.1 g
    refine q_iload_n (pc := 79) k146_79 rfl ?_
    refine q_iload (pc := 80) k146_80 rfl ?_
    refine q_idiv (pc := 82) k146_82 h.1 ?_
    replace h := h.2
    exact q_ireturn (pc := 83) k146_83 rfl ⟨_, rfl, h⟩
  · replace h := h.2 g
    refine q_iconst (pc := 14) (v := 1) k146_14 (by decide) ?_
    refine q_istore (pc := 15) [some (.int a0), some (.int a1), some (.int a2), some (.int a3), some (.int a4), some (.int a5), some (.int 1), none] k146_15 rfl (by decide) rfl ?_
    exact h
set_option maxRecDepth 20000 in
theorem vc146_p17 {X : Nat × (Nat → Int32)} {d : Nat} (hd : 0 < d) {M : q_M} {a0 a1 a2 a3 a4 a5 a6 : Int32} {K : Int32 → q_M → Prop} (h : ((a1 < a6) → (q_Ex X d 146 8 [some (.int a0), some (.int a1), some (.int a2), some (.int a3), some (.int a4), some (.int (a5 + 1)), none, none] [] M (q_ri K))) ∧ ((¬ a1 < a6) → (q_Ci X (d - 1) 132 [.int (a3 * (((a5 + a6) + a2) - 1)), .int (a4 * ((a5 + a6) - 1))] M (fun r2 M1 => ¬ r2 = 0 ∧ (¬ r2 = 0 ∧ (q_Ex X d 146 17 [some (.int a0), some (.int a1), some (.int a2), some (.int ((a3 * (((a5 + a6) + a2) - 1)) / r2)), some (.int ((a4 * ((a5 + a6) - 1)) / r2)), some (.int a5), some (.int (a6 + 1)), none] [] M1 (q_ri K))))))) : q_Ex X d 146 17 [some (.int a0), some (.int a1), some (.int a2), some (.int a3), some (.int a4), some (.int a5), some (.int a6), none] [] M (q_ri K) := by
  refine q_iload (pc := 17) k146_17 rfl ?_
  refine q_iload_n (pc := 19) k146_19 rfl ?_
  refine q_icmp_gt (pc := 20) 73 k146_20 (by decide) (fun g => ?_) (fun g => ?_)
  · replace h := h.1 g
    refine q_iinc (pc := 73) (v := a5 + 1) [some (.int a0), some (.int a1), some (.int a2), some (.int a3), some (.int a4), some (.int (a5 + 1)), some (.int a6), none] k146_73 rfl rfl rfl (by decide) rfl ?_
    refine q_goto (pc := 76) 8 k146_76 (by decide) ?_
    exact q_forget [some (.int a0), some (.int a1), some (.int a2), some (.int a3), some (.int a4), some (.int (a5 + 1)), none, none] (q_subOk (And.intro rfl (And.intro rfl (And.intro rfl (And.intro rfl (And.intro rfl (And.intro rfl (trivial)))))))) h
  · replace h := h.2 g
    refine q_iload_n (pc := 23) k146_23 rfl ?_
    refine q_iload (pc := 24) k146_24 rfl ?_
    refine q_iload (pc := 26) k146_26 rfl ?_
    refine q_iadd (pc := 28) k146_28 ?_
    refine q_iload_n (pc := 29) k146_29 rfl ?_
    refine q_iadd (pc := 30) k146_30 ?_
    refine q_iconst (pc := 31) (v := 1) k146_31 (by decide) ?_
    refine q_isub (pc := 32) k146_32 ?_
    refine q_imul (pc := 33) k146_33 ?_
    refine q_istore_n (pc := 34) [some (.int a0), some (.int a1), some (.int a2), some (.int (a3 * (((a5 + a6) + a2) - 1))), some (.int a4), some (.int a5), some (.int a6), none] k146_34 rfl (by decide) rfl ?_
    refine q_iload (pc := 35) k146_35 rfl ?_
    refine q_iload (pc := 37) k146_37 rfl ?_
    refine q_iload (pc := 39) k146_39 rfl ?_
    refine q_iadd (pc := 41) k146_41 ?_
    refine q_iconst (pc := 42) (v := 1) k146_42 (by decide) ?_
    refine q_isub (pc := 43) k146_43 ?_
    refine q_imul (pc := 44) k146_44 ?_
    refine q_istore (pc := 45) [some (.int a0), some (.int a1), some (.int a2), some (.int (a3 * (((a5 + a6) + a2) - 1))), some (.int (a4 * ((a5 + a6) - 1))), some (.int a5), some (.int a6), none] k146_45 rfl (by decide) rfl ?_
    refine q_iload_n (pc := 47) k146_47 rfl ?_
    refine q_iload (pc := 48) k146_48 rfl ?_
    refine q_invS (pc := 50) (As := [.int (a3 * (((a5 + a6) + a2) - 1)), .int (a4 * ((a5 + a6) - 1))]) (st := []) k146_50 lm146_187 os132 rfl rfl (q_cat rfl) (Nat.le_of_ble_eq_true rfl) hd h ?_
    rintro v M1 ⟨r2, rfl, h⟩
    show q_Ex X d 146 (50 + 3) [some (.int a0), some (.int a1), some (.int a2), some (.int (a3 * (((a5 + a6) + a2) - 1))), some (.int (a4 * ((a5 + a6) - 1))), some (.int a5), some (.int a6), none] [.int r2] M1 _
    refine q_istore (pc := 53) [some (.int a0), some (.int a1), some (.int a2), some (.int (a3 * (((a5 + a6) + a2) - 1))), some (.int (a4 * ((a5 + a6) - 1))), some (.int a5), some (.int a6), some (.int r2)] k146_53 rfl (by decide) rfl ?_
    refine q_iload_n (pc := 55) k146_55 rfl ?_
    refine q_iload (pc := 56) k146_56 rfl ?_
    refine q_idiv (pc := 58) k146_58 h.1 ?_
    replace h := h.2
    refine q_istore_n (pc := 59) [some (.int a0), some (.int a1), some (.int a2), some (.int ((a3 * (((a5 + a6) + a2) - 1)) / r2)), some (.int (a4 * ((a5 + a6) - 1))), some (.int a5), some (.int a6), some (.int r2)] k146_59 rfl (by decide) rfl ?_
    refine q_iload (pc := 60) k146_60 rfl ?_
    refine q_iload (pc := 62) k146_62 rfl ?_
    refine q_idiv (pc := 64) k146_64 h.1 ?_
    replace h := h.2
    refine q_istore (pc := 65) [some (.int a0), some (.int a1), some (.int a2), some (.int ((a3 * (((a5 + a6) + a2) - 1)) / r2)), some (.int ((a4 * ((a5 + a6) - 1)) / r2)), some (.int a5), some (.int a6), some (.int r2)] k146_65 rfl (by decide) rfl ?_
    refine q_iinc (pc := 67) (v := a6 + 1) [some (.int a0), some (.int a1), some (.int a2), some (.int ((a3 * (((a5 + a6) + a2) - 1)) / r2)), some (.int ((a4 * ((a5 + a6) - 1)) / r2)), some (.int a5), some (.int (a6 + 1)), some (.int r2)] k146_67 rfl rfl rfl (by decide) rfl ?_
    refine q_goto (pc := 70) 17 k146_70 (by decide) ?_
    exact q_forget [some (.int a0), some (.int a1), some (.int a2), some (.int ((a3 * (((a5 + a6) + a2) - 1)) / r2)), some (.int ((a4 * ((a5 + a6) - 1)) / r2)), some (.int a5), some (.int (a6 + 1)), none] (q_subOk (And.intro rfl (And.intro rfl (And.intro rfl (And.intro rfl (And.intro rfl (And.intro rfl (And.intro rfl (trivial))))))))) h
set_option maxRecDepth 20000 in
theorem vc147 {X : Nat × (Nat → Int32)} {d : Nat} (hd : 0 < d) {M : q_M} {a1 a2 a3 : Int32} {K : Int32 → q_M → Prop} (h : ((a1 < 0) → (q_Ci X (d - 1) 91 [.ref 97, .int (-4)] M (fun r2 M1 => K r2 M1))) ∧ ((¬ a1 < 0) → (((a2 < 0) → (q_Ci X (d - 1) 91 [.ref 97, .int (-4)] M (fun r4 M3 => K r4 M3))) ∧ ((¬ a2 < 0) → (((0 ≤ a3) → (((4 < a1) → (q_Ci X (d - 1) 91 [.ref 97, .int (-6)] M (fun r6 M5 => K r6 M5))) ∧ ((¬ 4 < a1) → (((4 < a2) → (q_Ci X (d - 1) 91 [.ref 97, .int (-6)] M (fun r8 M7 => K r8 M7))) ∧ ((¬ 4 < a2) → (((a3 ≤ 4) → (q_Ci X (d - 1) 146 [.int a1, .int a2, .int a3] M (fun r10 M9 => K r10 M9))) ∧ ((¬ a3 ≤ 4) → (q_Ci X (d - 1) 91 [.ref 97, .int (-6)] M (fun r12 M11 => K r12 M11))))))))) ∧ ((¬ 0 ≤ a3) → (q_Ci X (d - 1) 91 [.ref 97, .int (-4)] M (fun r14 M13 => K r14 M13)))))))) : q_Ci X d 147 [.ref 97, .int a1, .int a2, .int a3] M K := by
  show q_Ex X d 147 0 [some (.ref 97), some (.int a1), some (.int a2), some (.int a3), none] [] M (q_ri K)
  refine q_iload_n (pc := 0) k147_0 rfl ?_
  refine q_if_lt (pc := 1) 12 k147_1 (by decide) (fun g => ?_) (fun g => ?_)
  · replace h := h.1 g
    refine q_bipush (pc := 12) (v := (-4)) k147_12 (by decide) ?_
    refine q_goto (pc := 14) 38 k147_14 (by decide) ?_
    refine q_istore (pc := 38) [some (.ref 97), some (.int a1), some (.int a2), some (.int a3), some (.int (-4))] k147_38 rfl (by decide) rfl ?_
    refine q_iload (pc := 40) k147_40 rfl ?_
    refine q_if_eq (pc := 42) 54 k147_42 (by decide) (fun g => absurd g (by decide)) (fun _ => ?_)
    refine q_aload_n (pc := 45) k147_45 rfl ?_
    refine q_iload (pc := 46) k147_46 rfl ?_
    refine q_invV (pc := 48) (As := [.int (-4)]) (st := []) k147_48 lm147_80 ov91 rfl rfl rfl (q_cat rfl) (Nat.le_of_ble_eq_true rfl) hd h ?_
    rintro v M1 ⟨r2, rfl, h⟩
    show q_Ex X d 147 (48 + 3) [some (.ref 97), some (.int a1), some (.int a2), some (.int a3), some (.int (-4))] [.int r2] M1 _
    refine q_goto (pc := 51) 60 k147_51 (by decide) ?_
    exact q_ireturn (pc := 60) k147_60 rfl ⟨_, rfl, h⟩
  · replace h := h.2 g
    refine q_iload_n (pc := 4) k147_4 rfl ?_
    refine q_if_lt (pc := 5) 12 k147_5 (by decide) (fun g => ?_) (fun g => ?_)
    · replace h := h.1 g
      refine q_bipush (pc := 12) (v := (-4)) k147_12 (by decide) ?_
      refine q_goto (pc := 14) 38 k147_14 (by decide) ?_
      refine q_istore (pc := 38) [some (.ref 97), some (.int a1), some (.int a2), some (.int a3), some (.int (-4))] k147_38 rfl (by decide) rfl ?_
      refine q_iload (pc := 40) k147_40 rfl ?_
      refine q_if_eq (pc := 42) 54 k147_42 (by decide) (fun g => absurd g (by decide)) (fun _ => ?_)
      refine q_aload_n (pc := 45) k147_45 rfl ?_
      refine q_iload (pc := 46) k147_46 rfl ?_
      refine q_invV (pc := 48) (As := [.int (-4)]) (st := []) k147_48 lm147_80 ov91 rfl rfl rfl (q_cat rfl) (Nat.le_of_ble_eq_true rfl) hd h ?_
      rintro v M3 ⟨r4, rfl, h⟩
      show q_Ex X d 147 (48 + 3) [some (.ref 97), some (.int a1), some (.int a2), some (.int a3), some (.int (-4))] [.int r4] M3 _
      refine q_goto (pc := 51) 60 k147_51 (by decide) ?_
      exact q_ireturn (pc := 60) k147_60 rfl ⟨_, rfl, h⟩
    · replace h := h.2 g
      refine q_iload_n (pc := 8) k147_8 rfl ?_
      refine q_if_ge (pc := 9) 17 k147_9 (by decide) (fun g => ?_) (fun g => ?_)
      · replace h := h.1 g
        refine q_iload_n (pc := 17) k147_17 rfl ?_
        refine q_iconst (pc := 18) (v := 4) k147_18 (by decide) ?_
        refine q_icmp_gt (pc := 19) 32 k147_19 (by decide) (fun g => ?_) (fun g => ?_)
        · replace h := h.1 g
          refine q_bipush (pc := 32) (v := (-6)) k147_32 (by decide) ?_
          refine q_goto (pc := 34) 38 k147_34 (by decide) ?_
          refine q_istore (pc := 38) [some (.ref 97), some (.int a1), some (.int a2), some (.int a3), some (.int (-6))] k147_38 rfl (by decide) rfl ?_
          refine q_iload (pc := 40) k147_40 rfl ?_
          refine q_if_eq (pc := 42) 54 k147_42 (by decide) (fun g => absurd g (by decide)) (fun _ => ?_)
          refine q_aload_n (pc := 45) k147_45 rfl ?_
          refine q_iload (pc := 46) k147_46 rfl ?_
          refine q_invV (pc := 48) (As := [.int (-6)]) (st := []) k147_48 lm147_80 ov91 rfl rfl rfl (q_cat rfl) (Nat.le_of_ble_eq_true rfl) hd h ?_
          rintro v M5 ⟨r6, rfl, h⟩
          show q_Ex X d 147 (48 + 3) [some (.ref 97), some (.int a1), some (.int a2), some (.int a3), some (.int (-6))] [.int r6] M5 _
          refine q_goto (pc := 51) 60 k147_51 (by decide) ?_
          exact q_ireturn (pc := 60) k147_60 rfl ⟨_, rfl, h⟩
        · replace h := h.2 g
          refine q_iload_n (pc := 22) k147_22 rfl ?_
          refine q_iconst (pc := 23) (v := 4) k147_23 (by decide) ?_
          refine q_icmp_gt (pc := 24) 32 k147_24 (by decide) (fun g => ?_) (fun g => ?_)
          · replace h := h.1 g
            refine q_bipush (pc := 32) (v := (-6)) k147_32 (by decide) ?_
            refine q_goto (pc := 34) 38 k147_34 (by decide) ?_
            refine q_istore (pc := 38) [some (.ref 97), some (.int a1), some (.int a2), some (.int a3), some (.int (-6))] k147_38 rfl (by decide) rfl ?_
            refine q_iload (pc := 40) k147_40 rfl ?_
            refine q_if_eq (pc := 42) 54 k147_42 (by decide) (fun g => absurd g (by decide)) (fun _ => ?_)
            refine q_aload_n (pc := 45) k147_45 rfl ?_
            refine q_iload (pc := 46) k147_46 rfl ?_
            refine q_invV (pc := 48) (As := [.int (-6)]) (st := []) k147_48 lm147_80 ov91 rfl rfl rfl (q_cat rfl) (Nat.le_of_ble_eq_true rfl) hd h ?_
            rintro v M7 ⟨r8, rfl, h⟩
            show q_Ex X d 147 (48 + 3) [some (.ref 97), some (.int a1), some (.int a2), some (.int a3), some (.int (-6))] [.int r8] M7 _
            refine q_goto (pc := 51) 60 k147_51 (by decide) ?_
            exact q_ireturn (pc := 60) k147_60 rfl ⟨_, rfl, h⟩
          · replace h := h.2 g
            refine q_iload_n (pc := 27) k147_27 rfl ?_
            refine q_iconst (pc := 28) (v := 4) k147_28 (by decide) ?_
            refine q_icmp_le (pc := 29) 37 k147_29 (by decide) (fun g => ?_) (fun g => ?_)
            · replace h := h.1 g
              refine q_iconst (pc := 37) (v := 0) k147_37 (by decide) ?_
              refine q_istore (pc := 38) [some (.ref 97), some (.int a1), some (.int a2), some (.int a3), some (.int 0)] k147_38 rfl (by decide) rfl ?_
              refine q_iload (pc := 40) k147_40 rfl ?_
              refine q_if_eq (pc := 42) 54 k147_42 (by decide) (fun _ => ?_) (fun g => absurd g (by decide))
              refine q_iload_n (pc := 54) k147_54 rfl ?_
              refine q_iload_n (pc := 55) k147_55 rfl ?_
              refine q_iload_n (pc := 56) k147_56 rfl ?_
              refine q_invS (pc := 57) (As := [.int a1, .int a2, .int a3]) (st := []) k147_57 lm147_206 os146 rfl rfl (q_cat rfl) (Nat.le_of_ble_eq_true rfl) hd h ?_
              rintro v M9 ⟨r10, rfl, h⟩
              show q_Ex X d 147 (57 + 3) [some (.ref 97), some (.int a1), some (.int a2), some (.int a3), some (.int 0)] [.int r10] M9 _
              exact q_ireturn (pc := 60) k147_60 rfl ⟨_, rfl, h⟩
            · replace h := h.2 g
              refine q_bipush (pc := 32) (v := (-6)) k147_32 (by decide) ?_
              refine q_goto (pc := 34) 38 k147_34 (by decide) ?_
              refine q_istore (pc := 38) [some (.ref 97), some (.int a1), some (.int a2), some (.int a3), some (.int (-6))] k147_38 rfl (by decide) rfl ?_
              refine q_iload (pc := 40) k147_40 rfl ?_
              refine q_if_eq (pc := 42) 54 k147_42 (by decide) (fun g => absurd g (by decide)) (fun _ => ?_)
              refine q_aload_n (pc := 45) k147_45 rfl ?_
              refine q_iload (pc := 46) k147_46 rfl ?_
              refine q_invV (pc := 48) (As := [.int (-6)]) (st := []) k147_48 lm147_80 ov91 rfl rfl rfl (q_cat rfl) (Nat.le_of_ble_eq_true rfl) hd h ?_
              rintro v M11 ⟨r12, rfl, h⟩
              show q_Ex X d 147 (48 + 3) [some (.ref 97), some (.int a1), some (.int a2), some (.int a3), some (.int (-6))] [.int r12] M11 _
              refine q_goto (pc := 51) 60 k147_51 (by decide) ?_
              exact q_ireturn (pc := 60) k147_60 rfl ⟨_, rfl, h⟩
      · replace h := h.2 g
        refine q_bipush (pc := 12) (v := (-4)) k147_12 (by decide) ?_
        refine q_goto (pc := 14) 38 k147_14 (by decide) ?_
        refine q_istore (pc := 38) [some (.ref 97), some (.int a1), some (.int a2), some (.int a3), some (.int (-4))] k147_38 rfl (by decide) rfl ?_
        refine q_iload (pc := 40) k147_40 rfl ?_
        refine q_if_eq (pc := 42) 54 k147_42 (by decide) (fun g => absurd g (by decide)) (fun _ => ?_)
        refine q_aload_n (pc := 45) k147_45 rfl ?_
        refine q_iload (pc := 46) k147_46 rfl ?_
        refine q_invV (pc := 48) (As := [.int (-4)]) (st := []) k147_48 lm147_80 ov91 rfl rfl rfl (q_cat rfl) (Nat.le_of_ble_eq_true rfl) hd h ?_
        rintro v M13 ⟨r14, rfl, h⟩
        show q_Ex X d 147 (48 + 3) [some (.ref 97), some (.int a1), some (.int a2), some (.int a3), some (.int (-4))] [.int r14] M13 _
        refine q_goto (pc := 51) 60 k147_51 (by decide) ?_
        exact q_ireturn (pc := 60) k147_60 rfl ⟨_, rfl, h⟩
set_option maxRecDepth 20000 in
theorem vc148 {X : Nat × (Nat → Int32)} {d : Nat} (hd : 0 < d) {M : q_M} {a1 a2 : Int32} {K : Int32 → q_M → Prop} (h : q_Ci X (d - 1) 97 [.ref 97, .int a1] M (fun r2 M1 => ((¬ r2 = 0) → (q_Ci X (d - 1) 92 [.int a2, .int 2] M1 (fun r4 M3 => ((¬ r4 = 0) → (vp_in (12 + a1) 135 ∧ (((¬ (M3 99 (Int32.toNatClampNeg (12 + a1))) = 10) → (vp_in (12 + a1) 135 ∧ (vp_in ((15 + (10 * a1)) + (M3 99 (Int32.toNatClampNeg (12 + a1)))) 135 ∧ (vp_in (12 + a1) 135 ∧ (vp_in (12 + a1) 135 ∧ (vp_in (12 + a1) 135 ∧ (K ((q_set (q_set M3 99 (Int32.toNatClampNeg ((15 + (10 * a1)) + (M3 99 (Int32.toNatClampNeg (12 + a1))))) a2) 99 (Int32.toNatClampNeg (12 + a1)) (((q_set M3 99 (Int32.toNatClampNeg ((15 + (10 * a1)) + (M3 99 (Int32.toNatClampNeg (12 + a1))))) a2) 99 (Int32.toNatClampNeg (12 + a1))) + 1)) 99 (Int32.toNatClampNeg (12 + a1))) (q_set (q_set M3 99 (Int32.toNatClampNeg ((15 + (10 * a1)) + (M3 99 (Int32.toNatClampNeg (12 + a1))))) a2) 99 (Int32.toNatClampNeg (12 + a1)) (((q_set M3 99 (Int32.toNatClampNeg ((15 + (10 * a1)) + (M3 99 (Int32.toNatClampNeg (12 + a1))))) a2) 99 (Int32.toNatClampNeg (12 + a1))) + 1))))))))) ∧ (((M3 99 (Int32.toNatClampNeg (12 + a1))) = 10) → (q_Ci X (d - 1) 91 [.ref 97, .int (-6)] M3 (fun r6 M5 => K r6 M5)))))) ∧ ((r4 = 0) → (q_Ci X (d - 1) 91 [.ref 97, .int (-2)] M3 (fun r8 M7 => K r8 M7)))))) ∧ ((r2 = 0) → (q_Ci X (d - 1) 91 [.ref 97, .int (-1)] M1 (fun r10 M9 => K r10 M9))))) : q_Ci X d 148 [.ref 97, .int a1, .int a2] M K := by
  show q_Ex X d 148 0 [some (.ref 97), some (.int a1), some (.int a2), none] [] M (q_ri K)
  refine q_aload_n (pc := 0) k148_0 rfl ?_
  refine q_iload_n (pc := 1) k148_1 rfl ?_
  refine q_invV (pc := 2) (As := [.int a1]) (st := []) k148_2 lm148_126 ov97 rfl rfl rfl (q_cat rfl) (Nat.le_of_ble_eq_true rfl) hd h ?_
  rintro v M1 ⟨r2, rfl, h⟩
  show q_Ex X d 148 (2 + 3) [some (.ref 97), some (.int a1), some (.int a2), none] [.int r2] M1 _
  refine q_if_ne (pc := 5) 12 k148_5 (by decide) (fun g => ?_) (fun g => ?_)
  · replace h := h.1 g
    refine q_iload_n (pc := 12) k148_12 rfl ?_
    refine q_iconst (pc := 13) (v := 2) k148_13 (by decide) ?_
    refine q_invS (pc := 14) (As := [.int a2, .int 2]) (st := []) k148_14 lm148_68 os92 rfl rfl (q_cat rfl) (Nat.le_of_ble_eq_true rfl) hd h ?_
    rintro v M3 ⟨r4, rfl, h⟩
    show q_Ex X d 148 (14 + 3) [some (.ref 97), some (.int a1), some (.int a2), none] [.int r4] M3 _
    refine q_if_ne (pc := 17) 25 k148_17 (by decide) (fun g => ?_) (fun g => ?_)
    · replace h := h.1 g
      refine q_aload_n (pc := 25) k148_25 rfl ?_
      refine q_getR (pc := 26) k148_26 fg148_13 rfl rfl ?_
      refine q_bipush (pc := 29) (v := 12) k148_29 (by decide) ?_
      refine q_iload_n (pc := 31) k148_31 rfl ?_
      refine q_iadd (pc := 32) k148_32 ?_
      refine q_ialdv (pc := 33) (v := M3 99 (Int32.toNatClampNeg (12 + a1))) k148_33 rfl h.1 rfl ?_
      replace h := h.2
      refine q_bipush (pc := 34) (v := 10) k148_34 (by decide) ?_
      refine q_icmp_ne (pc := 36) 44 k148_36 (by decide) (fun g => ?_) (fun g => ?_)
      · replace h := h.1 g
        refine q_iconst (pc := 44) (v := 0) k148_44 (by decide) ?_
        refine q_istore_n (pc := 45) [some (.ref 97), some (.int a1), some (.int a2), some (.int 0)] k148_45 rfl (by decide) rfl ?_
        refine q_iload_n (pc := 46) k148_46 rfl ?_
        refine q_if_eq (pc := 47) 56 k148_47 (by decide) (fun _ => ?_) (fun g => absurd g (by decide))
        refine q_aload_n (pc := 56) k148_56 rfl ?_
        refine q_getR (pc := 57) k148_57 fg148_13 rfl rfl ?_
        refine q_bipush (pc := 60) (v := 15) k148_60 (by decide) ?_
        refine q_bipush (pc := 62) (v := 10) k148_62 (by decide) ?_
        refine q_iload_n (pc := 64) k148_64 rfl ?_
        refine q_imul (pc := 65) k148_65 ?_
        refine q_iadd (pc := 66) k148_66 ?_
        refine q_aload_n (pc := 67) k148_67 rfl ?_
        refine q_getR (pc := 68) k148_68 fg148_13 rfl rfl ?_
        refine q_bipush (pc := 71) (v := 12) k148_71 (by decide) ?_
        refine q_iload_n (pc := 73) k148_73 rfl ?_
        refine q_iadd (pc := 74) k148_74 ?_
        refine q_ialdv (pc := 75) (v := M3 99 (Int32.toNatClampNeg (12 + a1))) k148_75 rfl h.1 rfl ?_
        replace h := h.2
        refine q_iadd (pc := 76) k148_76 ?_
        refine q_iload_n (pc := 77) k148_77 rfl ?_
        refine q_iastv (pc := 78) (k := (Int32.toNatClampNeg ((15 + (10 * a1)) + (M3 99 (Int32.toNatClampNeg (12 + a1)))))) k148_78 rfl h.1 rfl ?_
        replace h := h.2
        refine q_aload_n (pc := 79) k148_79 rfl ?_
        refine q_getR (pc := 80) k148_80 fg148_13 rfl rfl ?_
        refine q_bipush (pc := 83) (v := 12) k148_83 (by decide) ?_
        refine q_iload_n (pc := 85) k148_85 rfl ?_
        refine q_iadd (pc := 86) k148_86 ?_
        refine q_dup2 (pc := 87) k148_87 rfl rfl ?_
        refine q_ialdv (pc := 88) (v := (q_set M3 99 (Int32.toNatClampNeg ((15 + (10 * a1)) + (M3 99 (Int32.toNatClampNeg (12 + a1))))) a2) 99 (Int32.toNatClampNeg (12 + a1))) k148_88 rfl h.1 rfl ?_
        replace h := h.2
        refine q_iconst (pc := 89) (v := 1) k148_89 (by decide) ?_
        refine q_iadd (pc := 90) k148_90 ?_
        refine q_iastv (pc := 91) (k := (Int32.toNatClampNeg (12 + a1))) k148_91 rfl h.1 rfl ?_
        replace h := h.2
        refine q_aload_n (pc := 92) k148_92 rfl ?_
        refine q_getR (pc := 93) k148_93 fg148_13 rfl rfl ?_
        refine q_bipush (pc := 96) (v := 12) k148_96 (by decide) ?_
        refine q_iload_n (pc := 98) k148_98 rfl ?_
        refine q_iadd (pc := 99) k148_99 ?_
        refine q_ialdv (pc := 100) (v := (q_set (q_set M3 99 (Int32.toNatClampNeg ((15 + (10 * a1)) + (M3 99 (Int32.toNatClampNeg (12 + a1))))) a2) 99 (Int32.toNatClampNeg (12 + a1)) (((q_set M3 99 (Int32.toNatClampNeg ((15 + (10 * a1)) + (M3 99 (Int32.toNatClampNeg (12 + a1))))) a2) 99 (Int32.toNatClampNeg (12 + a1))) + 1)) 99 (Int32.toNatClampNeg (12 + a1))) k148_100 rfl h.1 rfl ?_
        replace h := h.2
        exact q_ireturn (pc := 101) k148_101 rfl ⟨_, rfl, h⟩
      · replace h := h.2 g
        refine q_bipush (pc := 39) (v := (-6)) k148_39 (by decide) ?_
        refine q_goto (pc := 41) 45 k148_41 (by decide) ?_
        refine q_istore_n (pc := 45) [some (.ref 97), some (.int a1), some (.int a2), some (.int (-6))] k148_45 rfl (by decide) rfl ?_
        refine q_iload_n (pc := 46) k148_46 rfl ?_
        refine q_if_eq (pc := 47) 56 k148_47 (by decide) (fun g => absurd g (by decide)) (fun _ => ?_)
        refine q_aload_n (pc := 50) k148_50 rfl ?_
        refine q_iload_n (pc := 51) k148_51 rfl ?_
        refine q_invV (pc := 52) (As := [.int (-6)]) (st := []) k148_52 lm148_80 ov91 rfl rfl rfl (q_cat rfl) (Nat.le_of_ble_eq_true rfl) hd h ?_
        rintro v M5 ⟨r6, rfl, h⟩
        show q_Ex X d 148 (52 + 3) [some (.ref 97), some (.int a1), some (.int a2), some (.int (-6))] [.int r6] M5 _
        exact q_ireturn (pc := 55) k148_55 rfl ⟨_, rfl, h⟩
    · replace h := h.2 g
      refine q_bipush (pc := 20) (v := (-2)) k148_20 (by decide) ?_
      refine q_goto (pc := 22) 45 k148_22 (by decide) ?_
      refine q_istore_n (pc := 45) [some (.ref 97), some (.int a1), some (.int a2), some (.int (-2))] k148_45 rfl (by decide) rfl ?_
      refine q_iload_n (pc := 46) k148_46 rfl ?_
      refine q_if_eq (pc := 47) 56 k148_47 (by decide) (fun g => absurd g (by decide)) (fun _ => ?_)
      refine q_aload_n (pc := 50) k148_50 rfl ?_
      refine q_iload_n (pc := 51) k148_51 rfl ?_
      refine q_invV (pc := 52) (As := [.int (-2)]) (st := []) k148_52 lm148_80 ov91 rfl rfl rfl (q_cat rfl) (Nat.le_of_ble_eq_true rfl) hd h ?_
      rintro v M7 ⟨r8, rfl, h⟩
      show q_Ex X d 148 (52 + 3) [some (.ref 97), some (.int a1), some (.int a2), some (.int (-2))] [.int r8] M7 _
      exact q_ireturn (pc := 55) k148_55 rfl ⟨_, rfl, h⟩
  · replace h := h.2 g
    refine q_iconst (pc := 8) (v := (-1)) k148_8 (by decide) ?_
    refine q_goto (pc := 9) 45 k148_9 (by decide) ?_
    refine q_istore_n (pc := 45) [some (.ref 97), some (.int a1), some (.int a2), some (.int (-1))] k148_45 rfl (by decide) rfl ?_
    refine q_iload_n (pc := 46) k148_46 rfl ?_
    refine q_if_eq (pc := 47) 56 k148_47 (by decide) (fun g => absurd g (by decide)) (fun _ => ?_)
    refine q_aload_n (pc := 50) k148_50 rfl ?_
    refine q_iload_n (pc := 51) k148_51 rfl ?_
    refine q_invV (pc := 52) (As := [.int (-1)]) (st := []) k148_52 lm148_80 ov91 rfl rfl rfl (q_cat rfl) (Nat.le_of_ble_eq_true rfl) hd h ?_
    rintro v M9 ⟨r10, rfl, h⟩
    show q_Ex X d 148 (52 + 3) [some (.ref 97), some (.int a1), some (.int a2), some (.int (-1))] [.int r10] M9 _
    exact q_ireturn (pc := 55) k148_55 rfl ⟨_, rfl, h⟩
set_option maxRecDepth 20000 in
theorem vc149 {X : Nat × (Nat → Int32)} {d : Nat} (hd : 0 < d) {M : q_M} {a1 : Int32} {K : Int32 → q_M → Prop} (h : q_Ci X (d - 1) 110 [.ref 97, .int 2, .int a1] M (fun r2 M1 => q_Ex X d 149 14 [some (.ref 97), some (.int a1), some (.int r2), some (.int (1 <<< (r2 &&& 31))), some (.int 0)] [] M1 (q_ri K))) : q_Ci X d 149 [.ref 97, .int a1] M K := by
  show q_Ex X d 149 0 [some (.ref 97), some (.int a1), none, none, none] [] M (q_ri K)
  refine q_aload_n (pc := 0) k149_0 rfl ?_
  refine q_iconst (pc := 1) (v := 2) k149_1 (by decide) ?_
  refine q_iload_n (pc := 2) k149_2 rfl ?_
  refine q_invV (pc := 3) (As := [.int 2, .int a1]) (st := []) k149_3 lm149_120 ov110 rfl rfl rfl (q_cat rfl) (Nat.le_of_ble_eq_true rfl) hd h ?_
  rintro v M1 ⟨r2, rfl, h⟩
  show q_Ex X d 149 (3 + 3) [some (.ref 97), some (.int a1), none, none, none] [.int r2] M1 _
  refine q_istore_n (pc := 6) [some (.ref 97), some (.int a1), some (.int r2), none, none] k149_6 rfl (by decide) rfl ?_
  refine q_iconst (pc := 7) (v := 1) k149_7 (by decide) ?_
  refine q_iload_n (pc := 8) k149_8 rfl ?_
  refine q_ishl (pc := 9) k149_9 ?_
  refine q_istore_n (pc := 10) [some (.ref 97), some (.int a1), some (.int r2), some (.int (1 <<< (r2 &&& 31))), none] k149_10 rfl (by decide) rfl ?_
  refine q_iconst (pc := 11) (v := 0) k149_11 (by decide) ?_
  refine q_istore (pc := 12) [some (.ref 97), some (.int a1), some (.int r2), some (.int (1 <<< (r2 &&& 31))), some (.int 0)] k149_12 rfl (by decide) rfl ?_
  exact h
set_option maxRecDepth 20000 in
theorem vc149_p14 {X : Nat × (Nat → Int32)} {d : Nat} (hd : 0 < d) {M : q_M} {a1 a2 a3 a4 : Int32} {K : Int32 → q_M → Prop} (h : vp_in (12 + a1) 135 ∧ ((((M 99 (Int32.toNatClampNeg (12 + a1))) ≤ a4) → (vp_in a1 3 ∧ (K (-9) (q_set (q_set M 115 (Int32.toNatClampNeg a1) a2) 97 27 a3)))) ∧ ((¬ (M 99 (Int32.toNatClampNeg (12 + a1))) ≤ a4) → (vp_in ((15 + (10 * a1)) + a4) 135 ∧ (q_Ci X (d - 1) 111 [.ref 97, .int a2, .int (M 99 (Int32.toNatClampNeg ((15 + (10 * a1)) + a4)))] M (fun r2 M1 => ((0 ≤ r2) → (q_Ex X d 149 14 [some (.ref 97), some (.int a1), some (.int r2), some (.int (a3 ||| (1 <<< (r2 &&& 31)))), some (.int (a4 + 1))] [] M1 (q_ri K))) ∧ ((¬ 0 ≤ r2) → (K a4 M1)))))))) : q_Ex X d 149 14 [some (.ref 97), some (.int a1), some (.int a2), some (.int a3), some (.int a4)] [] M (q_ri K) := by
  refine q_iload (pc := 14) k149_14 rfl ?_
  refine q_aload_n (pc := 16) k149_16 rfl ?_
  refine q_getR (pc := 17) k149_17 fg149_13 rfl rfl ?_
  refine q_bipush (pc := 20) (v := 12) k149_20 (by decide) ?_
  refine q_iload_n (pc := 22) k149_22 rfl ?_
  refine q_iadd (pc := 23) k149_23 ?_
  refine q_ialdv (pc := 24) (v := M 99 (Int32.toNatClampNeg (12 + a1))) k149_24 rfl h.1 rfl ?_
  replace h := h.2
  refine q_icmp_ge (pc := 25) 68 k149_25 (by decide) (fun g => ?_) (fun g => ?_)
  · replace h := h.1 g
    refine q_aload_n (pc := 68) k149_68 rfl ?_
    refine q_getR (pc := 69) k149_69 fg149_61 rfl rfl ?_
    refine q_iload_n (pc := 72) k149_72 rfl ?_
    refine q_iload_n (pc := 73) k149_73 rfl ?_
    refine q_iastv (pc := 74) (k := (Int32.toNatClampNeg a1)) k149_74 rfl h.1 rfl ?_
    replace h := h.2
    refine q_aload_n (pc := 75) k149_75 rfl ?_
    refine q_iload_n (pc := 76) k149_76 rfl ?_
    refine q_putI (pc := 77) k149_77 fp149_209 rfl rfl ?_
    refine q_bipush (pc := 80) (v := (-9)) k149_80 (by decide) ?_
    exact q_ireturn (pc := 82) k149_82 rfl ⟨_, rfl, h⟩
  · replace h := h.2 g
    refine q_aload_n (pc := 28) k149_28 rfl ?_
    refine q_iload_n (pc := 29) k149_29 rfl ?_
    refine q_aload_n (pc := 30) k149_30 rfl ?_
    refine q_getR (pc := 31) k149_31 fg149_13 rfl rfl ?_
    refine q_bipush (pc := 34) (v := 15) k149_34 (by decide) ?_
    refine q_bipush (pc := 36) (v := 10) k149_36 (by decide) ?_
    refine q_iload_n (pc := 38) k149_38 rfl ?_
    refine q_imul (pc := 39) k149_39 ?_
    refine q_iadd (pc := 40) k149_40 ?_
    refine q_iload (pc := 41) k149_41 rfl ?_
    refine q_iadd (pc := 43) k149_43 ?_
    refine q_ialdv (pc := 44) (v := M 99 (Int32.toNatClampNeg ((15 + (10 * a1)) + a4))) k149_44 rfl h.1 rfl ?_
    replace h := h.2
    refine q_invV (pc := 45) (As := [.int a2, .int (M 99 (Int32.toNatClampNeg ((15 + (10 * a1)) + a4)))]) (st := []) k149_45 lm149_112 ov111 rfl rfl rfl (q_cat rfl) (Nat.le_of_ble_eq_true rfl) hd h ?_
    rintro v M1 ⟨r2, rfl, h⟩
    show q_Ex X d 149 (45 + 3) [some (.ref 97), some (.int a1), some (.int a2), some (.int a3), some (.int a4)] [.int r2] M1 _
    refine q_istore_n (pc := 48) [some (.ref 97), some (.int a1), some (.int r2), some (.int a3), some (.int a4)] k149_48 rfl (by decide) rfl ?_
    refine q_iload_n (pc := 49) k149_49 rfl ?_
    refine q_if_ge (pc := 50) 56 k149_50 (by decide) (fun g => ?_) (fun g => ?_)
    · replace h := h.1 g
      refine q_iload_n (pc := 56) k149_56 rfl ?_
      refine q_iconst (pc := 57) (v := 1) k149_57 (by decide) ?_
      refine q_iload_n (pc := 58) k149_58 rfl ?_
      refine q_ishl (pc := 59) k149_59 ?_
      refine q_ior (pc := 60) k149_60 ?_
      refine q_istore_n (pc := 61) [some (.ref 97), some (.int a1), some (.int r2), some (.int (a3 ||| (1 <<< (r2 &&& 31)))), some (.int a4)] k149_61 rfl (by decide) rfl ?_
      refine q_iinc (pc := 62) (v := a4 + 1) [some (.ref 97), some (.int a1), some (.int r2), some (.int (a3 ||| (1 <<< (r2 &&& 31)))), some (.int (a4 + 1))] k149_62 rfl rfl rfl (by decide) rfl ?_
      refine q_goto (pc := 65) 14 k149_65 (by decide) ?_
      exact h
    · replace h := h.2 g
      refine q_iload (pc := 53) k149_53 rfl ?_
      exact q_ireturn (pc := 55) k149_55 rfl ⟨_, rfl, h⟩
set_option maxRecDepth 20000 in
theorem vc150 {X : Nat × (Nat → Int32)} {d : Nat} (hd : 0 < d) {M : q_M} {K : Int32 → q_M → Prop} (h : q_Ci X (d - 1) 124 [.ref 97] M (fun r2 M1 => ((¬ r2 = 0) → (q_Ex X d 150 20 [some (.ref 97), some (.int 0), some (.int 0), some (.int 0), none, none] [] M1 (q_ri K))) ∧ ((r2 = 0) → (q_Ci X (d - 1) 91 [.ref 97, .int (-3)] M1 (fun r4 M3 => K r4 M3))))) : q_Ci X d 150 [.ref 97] M K := by
  show q_Ex X d 150 0 [some (.ref 97), none, none, none, none, none] [] M (q_ri K)
  refine q_aload_n (pc := 0) k150_0 rfl ?_
  refine q_invV (pc := 1) (As := []) (st := []) k150_1 lm150_173 ov124 rfl rfl rfl (q_cat rfl) (Nat.le_of_ble_eq_true rfl) hd h ?_
  rintro v M1 ⟨r2, rfl, h⟩
  show q_Ex X d 150 (1 + 3) [some (.ref 97), none, none, none, none, none] [.int r2] M1 _
  refine q_if_ne (pc := 4) 14 k150_4 (by decide) (fun g => ?_) (fun g => ?_)
  · replace h := h.1 g
    refine q_iconst (pc := 14) (v := 0) k150_14 (by decide) ?_
    refine q_istore_n (pc := 15) [some (.ref 97), some (.int 0), none, none, none, none] k150_15 rfl (by decide) rfl ?_
    refine q_iconst (pc := 16) (v := 0) k150_16 (by decide) ?_
    refine q_istore_n (pc := 17) [some (.ref 97), some (.int 0), some (.int 0), none, none, none] k150_17 rfl (by decide) rfl ?_
    refine q_iconst (pc := 18) (v := 0) k150_18 (by decide) ?_
    refine q_istore_n (pc := 19) [some (.ref 97), some (.int 0), some (.int 0), some (.int 0), none, none] k150_19 rfl (by decide) rfl ?_
    exact h
  · replace h := h.2 g
    refine q_aload_n (pc := 7) k150_7 rfl ?_
    refine q_bipush (pc := 8) (v := (-3)) k150_8 (by decide) ?_
    refine q_invV (pc := 10) (As := [.int (-3)]) (st := []) k150_10 lm150_80 ov91 rfl rfl rfl (q_cat rfl) (Nat.le_of_ble_eq_true rfl) hd h ?_
    rintro v M3 ⟨r4, rfl, h⟩
    show q_Ex X d 150 (10 + 3) [some (.ref 97), none, none, none, none, none] [.int r4] M3 _
    exact q_ireturn (pc := 13) k150_13 rfl ⟨_, rfl, h⟩
set_option maxRecDepth 20000 in
theorem vc150_p20 {X : Nat × (Nat → Int32)} {d : Nat} (hd : 0 < d) {M : q_M} {a1 a2 a3 : Int32} {K : Int32 → q_M → Prop} (h : (((M 99 2) ≤ a3) → (q_Ex X d 150 78 [some (.ref 97), none, some (.int a2), some (.int 0), none, none] [] M (q_ri K))) ∧ ((¬ (M 99 2) ≤ a3) → (q_Ci X (d - 1) 149 [.ref 97, .int a3] M (fun r2 M1 => ((r2 < 0) → (q_Ex X d 150 20 [some (.ref 97), some (.int (a1 ||| (M1 97 27))), some (.int (a2 ||| (a1 &&& (M1 97 27)))), some (.int (a3 + 1)), none, none] [] M1 (q_ri K))) ∧ ((¬ r2 < 0) → (K ((1000 + (20 * a3)) + r2) M1)))))) : q_Ex X d 150 20 [some (.ref 97), some (.int a1), some (.int a2), some (.int a3), none, none] [] M (q_ri K) := by
  refine q_iload_n (pc := 20) k150_20 rfl ?_
  refine q_aload_n (pc := 21) k150_21 rfl ?_
  refine q_getR (pc := 22) k150_22 fg150_13 rfl rfl ?_
  refine q_iconst (pc := 25) (v := 2) k150_25 (by decide) ?_
  refine q_ialdv (pc := 26) (v := M 99 2) k150_26 rfl (by decide) rfl ?_
  refine q_icmp_ge (pc := 27) 76 k150_27 (by decide) (fun g => ?_) (fun g => ?_)
  · replace h := h.1 g
    refine q_iconst (pc := 76) (v := 0) k150_76 (by decide) ?_
    refine q_istore_n (pc := 77) [some (.ref 97), some (.int a1), some (.int a2), some (.int 0), none, none] k150_77 rfl (by decide) rfl ?_
    exact q_forget [some (.ref 97), none, some (.int a2), some (.int 0), none, none] (q_subOk (And.intro rfl (And.intro rfl (And.intro rfl (trivial))))) h
  · replace h := h.2 g
    refine q_aload_n (pc := 30) k150_30 rfl ?_
    refine q_iload_n (pc := 31) k150_31 rfl ?_
    refine q_invV (pc := 32) (As := [.int a3]) (st := []) k150_32 lm150_212 ov149 rfl rfl rfl (q_cat rfl) (Nat.le_of_ble_eq_true rfl) hd h ?_
    rintro v M1 ⟨r2, rfl, h⟩
    show q_Ex X d 150 (32 + 3) [some (.ref 97), some (.int a1), some (.int a2), some (.int a3), none, none] [.int r2] M1 _
    refine q_istore (pc := 35) [some (.ref 97), some (.int a1), some (.int a2), some (.int a3), some (.int r2), none] k150_35 rfl (by decide) rfl ?_
    refine q_iload (pc := 37) k150_37 rfl ?_
    refine q_if_lt (pc := 39) 54 k150_39 (by decide) (fun g => ?_) (fun g => ?_)
    · replace h := h.1 g
      refine q_iload_n (pc := 54) k150_54 rfl ?_
      refine q_iload_n (pc := 55) k150_55 rfl ?_
      refine q_aload_n (pc := 56) k150_56 rfl ?_
      refine q_getIv (pc := 57) (v := M1 97 27) k150_57 fg150_209 rfl rfl rfl ?_
      refine q_iand (pc := 60) k150_60 ?_
      refine q_ior (pc := 61) k150_61 ?_
      refine q_istore_n (pc := 62) [some (.ref 97), some (.int a1), some (.int (a2 ||| (a1 &&& (M1 97 27)))), some (.int a3), some (.int r2), none] k150_62 rfl (by decide) rfl ?_
      refine q_iload_n (pc := 63) k150_63 rfl ?_
      refine q_aload_n (pc := 64) k150_64 rfl ?_
      refine q_getIv (pc := 65) (v := M1 97 27) k150_65 fg150_209 rfl rfl rfl ?_
      refine q_ior (pc := 68) k150_68 ?_
      refine q_istore_n (pc := 69) [some (.ref 97), some (.int (a1 ||| (M1 97 27))), some (.int (a2 ||| (a1 &&& (M1 97 27)))), some (.int a3), some (.int r2), none] k150_69 rfl (by decide) rfl ?_
      refine q_iinc (pc := 70) (v := a3 + 1) [some (.ref 97), some (.int (a1 ||| (M1 97 27))), some (.int (a2 ||| (a1 &&& (M1 97 27)))), some (.int (a3 + 1)), some (.int r2), none] k150_70 rfl rfl rfl (by decide) rfl ?_
      refine q_goto (pc := 73) 20 k150_73 (by decide) ?_
      exact q_forget [some (.ref 97), some (.int (a1 ||| (M1 97 27))), some (.int (a2 ||| (a1 &&& (M1 97 27)))), some (.int (a3 + 1)), none, none] (q_subOk (And.intro rfl (And.intro rfl (And.intro rfl (And.intro rfl (trivial)))))) h
    · replace h := h.2 g
      refine q_sipush (pc := 42) (v := 1000) k150_42 (by decide) ?_
      refine q_bipush (pc := 45) (v := 20) k150_45 (by decide) ?_
      refine q_iload_n (pc := 47) k150_47 rfl ?_
      refine q_imul (pc := 48) k150_48 ?_
      refine q_iadd (pc := 49) k150_49 ?_
      refine q_iload (pc := 50) k150_50 rfl ?_
      refine q_iadd (pc := 52) k150_52 ?_
      exact q_ireturn (pc := 53) k150_53 rfl ⟨_, rfl, h⟩
set_option maxRecDepth 20000 in
theorem vc150_p78 {X : Nat × (Nat → Int32)} {d : Nat} (hd : 0 < d) {M : q_M} {a2 a3 : Int32} {K : Int32 → q_M → Prop} (h : (((M 99 2) ≤ a3) → (((¬ a2 = 0) → (q_Ex X d 150 167 [none, none, some (.int a2), some (.int 0), none, none] [] M (q_ri K))) ∧ ((a2 = 0) → (K (-9) M)))) ∧ ((¬ (M 99 2) ≤ a3) → (q_Ci X (d - 1) 121 [.ref 97, .int (M 99 3), .int a3] M (fun r2 M1 => vp_in a3 3 ∧ (q_Ci X (d - 1) 98 [.ref 97, .int (M1 115 (Int32.toNatClampNeg a3))] M1 (fun r4 M3 => ((¬ r4 = 3) → (K (100 + a3) M3)) ∧ ((r4 = 3) → (((r2 < 0) → (q_Ex X d 150 78 [some (.ref 97), none, some (.int a2), some (.int (a3 + 1)), none, none] [] M3 (q_ri K))) ∧ ((¬ r2 < 0) → (vp_in a3 3 ∧ (q_Ci X (d - 1) 100 [.ref 97, .int (M3 115 (Int32.toNatClampNeg a3))] M3 (fun r6 M5 => ((¬ r6 = r2) → (K (100 + a3) M5)) ∧ ((r6 = r2) → (q_Ex X d 150 78 [some (.ref 97), none, some (.int a2), some (.int (a3 + 1)), none, none] [] M5 (q_ri K))))))))))))))) : q_Ex X d 150 78 [some (.ref 97), none, some (.int a2), some (.int a3), none, none] [] M (q_ri K) := by
  refine q_iload_n (pc := 78) k150_78 rfl ?_
  refine q_aload_n (pc := 79) k150_79 rfl ?_
  refine q_getR (pc := 80) k150_80 fg150_13 rfl rfl ?_
  refine q_iconst (pc := 83) (v := 2) k150_83 (by decide) ?_
  refine q_ialdv (pc := 84) (v := M 99 2) k150_84 rfl (by decide) rfl ?_
  refine q_icmp_ge (pc := 85) 158 k150_85 (by decide) (fun g => ?_) (fun g => ?_)
  · replace h := h.1 g
    refine q_iload_n (pc := 158) k150_158 rfl ?_
    refine q_if_ne (pc := 159) 165 k150_159 (by decide) (fun g => ?_) (fun g => ?_)
    · replace h := h.1 g
      refine q_iconst (pc := 165) (v := 0) k150_165 (by decide) ?_
      refine q_istore_n (pc := 166) [some (.ref 97), none, some (.int a2), some (.int 0), none, none] k150_166 rfl (by decide) rfl ?_
      exact q_forget [none, none, some (.int a2), some (.int 0), none, none] (q_subOk (And.intro rfl (And.intro rfl (trivial)))) h
    · replace h := h.2 g
      refine q_bipush (pc := 162) (v := (-9)) k150_162 (by decide) ?_
      exact q_ireturn (pc := 164) k150_164 rfl ⟨_, rfl, h⟩
  · replace h := h.2 g
    refine q_aload_n (pc := 88) k150_88 rfl ?_
    refine q_aload_n (pc := 89) k150_89 rfl ?_
    refine q_getR (pc := 90) k150_90 fg150_13 rfl rfl ?_
    refine q_iconst (pc := 93) (v := 3) k150_93 (by decide) ?_
    refine q_ialdv (pc := 94) (v := M 99 3) k150_94 rfl (by decide) rfl ?_
    refine q_iload_n (pc := 95) k150_95 rfl ?_
    refine q_invV (pc := 96) (As := [.int (M 99 3), .int a3]) (st := []) k150_96 lm150_164 ov121 rfl rfl rfl (q_cat rfl) (Nat.le_of_ble_eq_true rfl) hd h ?_
    rintro v M1 ⟨r2, rfl, h⟩
    show q_Ex X d 150 (96 + 3) [some (.ref 97), none, some (.int a2), some (.int a3), none, none] [.int r2] M1 _
    refine q_istore (pc := 99) [some (.ref 97), none, some (.int a2), some (.int a3), some (.int r2), none] k150_99 rfl (by decide) rfl ?_
    refine q_aload_n (pc := 101) k150_101 rfl ?_
    refine q_aload_n (pc := 102) k150_102 rfl ?_
    refine q_getR (pc := 103) k150_103 fg150_61 rfl rfl ?_
    refine q_iload_n (pc := 106) k150_106 rfl ?_
    refine q_ialdv (pc := 107) (v := M1 115 (Int32.toNatClampNeg a3)) k150_107 rfl h.1 rfl ?_
    replace h := h.2
    refine q_invV (pc := 108) (As := [.int (M1 115 (Int32.toNatClampNeg a3))]) (st := []) k150_108 lm150_106 ov98 rfl rfl rfl (q_cat rfl) (Nat.le_of_ble_eq_true rfl) hd h ?_
    rintro v M3 ⟨r4, rfl, h⟩
    show q_Ex X d 150 (108 + 3) [some (.ref 97), none, some (.int a2), some (.int a3), some (.int r2), none] [.int r4] M3 _
    refine q_iconst (pc := 111) (v := 3) k150_111 (by decide) ?_
    refine q_icmp_ne (pc := 112) 139 k150_112 (by decide) (fun g => ?_) (fun g => ?_)
    · replace h := h.1 g
      refine q_iconst (pc := 139) (v := 0) k150_139 (by decide) ?_
      refine q_istore (pc := 140) [some (.ref 97), none, some (.int a2), some (.int a3), some (.int r2), some (.int 0)] k150_140 rfl (by decide) rfl ?_
      refine q_iload (pc := 142) k150_142 rfl ?_
      refine q_if_ne (pc := 144) 152 k150_144 (by decide) (fun g => absurd g (by decide)) (fun _ => ?_)
      refine q_bipush (pc := 147) (v := 100) k150_147 (by decide) ?_
      refine q_iload_n (pc := 149) k150_149 rfl ?_
      refine q_iadd (pc := 150) k150_150 ?_
      exact q_ireturn (pc := 151) k150_151 rfl ⟨_, rfl, h⟩
    · replace h := h.2 g
      refine q_iload (pc := 115) k150_115 rfl ?_
      refine q_if_lt (pc := 117) 135 k150_117 (by decide) (fun g => ?_) (fun g => ?_)
      · replace h := h.1 g
        refine q_iconst (pc := 135) (v := 1) k150_135 (by decide) ?_
        refine q_goto (pc := 136) 140 k150_136 (by decide) ?_
        refine q_istore (pc := 140) [some (.ref 97), none, some (.int a2), some (.int a3), some (.int r2), some (.int 1)] k150_140 rfl (by decide) rfl ?_
        refine q_iload (pc := 142) k150_142 rfl ?_
        refine q_if_ne (pc := 144) 152 k150_144 (by decide) (fun _ => ?_) (fun g => absurd g (by decide))
        refine q_iinc (pc := 152) (v := a3 + 1) [some (.ref 97), none, some (.int a2), some (.int (a3 + 1)), some (.int r2), some (.int 1)] k150_152 rfl rfl rfl (by decide) rfl ?_
        refine q_goto (pc := 155) 78 k150_155 (by decide) ?_
        exact q_forget [some (.ref 97), none, some (.int a2), some (.int (a3 + 1)), none, none] (q_subOk (And.intro rfl (And.intro rfl (And.intro rfl (trivial))))) h
      · replace h := h.2 g
        refine q_aload_n (pc := 120) k150_120 rfl ?_
        refine q_aload_n (pc := 121) k150_121 rfl ?_
        refine q_getR (pc := 122) k150_122 fg150_61 rfl rfl ?_
        refine q_iload_n (pc := 125) k150_125 rfl ?_
        refine q_ialdv (pc := 126) (v := M3 115 (Int32.toNatClampNeg a3)) k150_126 rfl h.1 rfl ?_
        replace h := h.2
        refine q_invV (pc := 127) (As := [.int (M3 115 (Int32.toNatClampNeg a3))]) (st := []) k150_127 lm150_109 ov100 rfl rfl rfl (q_cat rfl) (Nat.le_of_ble_eq_true rfl) hd h ?_
        rintro v M5 ⟨r6, rfl, h⟩
        show q_Ex X d 150 (127 + 3) [some (.ref 97), none, some (.int a2), some (.int a3), some (.int r2), none] [.int r6] M5 _
        refine q_iload (pc := 130) k150_130 rfl ?_
        refine q_icmp_ne (pc := 132) 139 k150_132 (by decide) (fun g => ?_) (fun g => ?_)
        · replace h := h.1 g
          refine q_iconst (pc := 139) (v := 0) k150_139 (by decide) ?_
          refine q_istore (pc := 140) [some (.ref 97), none, some (.int a2), some (.int a3), some (.int r2), some (.int 0)] k150_140 rfl (by decide) rfl ?_
          refine q_iload (pc := 142) k150_142 rfl ?_
          refine q_if_ne (pc := 144) 152 k150_144 (by decide) (fun g => absurd g (by decide)) (fun _ => ?_)
          refine q_bipush (pc := 147) (v := 100) k150_147 (by decide) ?_
          refine q_iload_n (pc := 149) k150_149 rfl ?_
          refine q_iadd (pc := 150) k150_150 ?_
          exact q_ireturn (pc := 151) k150_151 rfl ⟨_, rfl, h⟩
        · replace h := h.2 g
          refine q_iconst (pc := 135) (v := 1) k150_135 (by decide) ?_
          refine q_goto (pc := 136) 140 k150_136 (by decide) ?_
          refine q_istore (pc := 140) [some (.ref 97), none, some (.int a2), some (.int a3), some (.int r2), some (.int 1)] k150_140 rfl (by decide) rfl ?_
          refine q_iload (pc := 142) k150_142 rfl ?_
          refine q_if_ne (pc := 144) 152 k150_144 (by decide) (fun _ => ?_) (fun g => absurd g (by decide))
          refine q_iinc (pc := 152) (v := a3 + 1) [some (.ref 97), none, some (.int a2), some (.int (a3 + 1)), some (.int r2), some (.int 1)] k150_152 rfl rfl rfl (by decide) rfl ?_
          refine q_goto (pc := 155) 78 k150_155 (by decide) ?_
          exact q_forget [some (.ref 97), none, some (.int a2), some (.int (a3 + 1)), none, none] (q_subOk (And.intro rfl (And.intro rfl (And.intro rfl (trivial))))) h
set_option maxRecDepth 20000 in
theorem vc150_p167 {X : Nat × (Nat → Int32)} {d : Nat} {M : q_M} {a2 a3 : Int32} {K : Int32 → q_M → Prop} (h : ((¬ ((a2 >>> (a3 &&& 31)) &&& 1) = 0) → (K a3 M)) ∧ ((((a2 >>> (a3 &&& 31)) &&& 1) = 0) → (q_Ex X d 150 167 [none, none, some (.int a2), some (.int (a3 + 1)), none, none] [] M (q_ri K)))) : q_Ex X d 150 167 [none, none, some (.int a2), some (.int a3), none, none] [] M (q_ri K) := by
  refine q_iload_n (pc := 167) k150_167 rfl ?_
  refine q_iload_n (pc := 168) k150_168 rfl ?_
  refine q_ishr (pc := 169) k150_169 ?_
  refine q_iconst (pc := 170) (v := 1) k150_170 (by decide) ?_
  refine q_iand (pc := 171) k150_171 ?_
  refine q_if_ne (pc := 172) 181 k150_172 (by decide) (fun g => ?_) (fun g => ?_)
  · replace h := h.1 g
    refine q_iload_n (pc := 181) k150_181 rfl ?_
    exact q_ireturn (pc := 182) k150_182 rfl ⟨_, rfl, h⟩
  · replace h := h.2 g
    refine q_iinc (pc := 175) (v := a3 + 1) [none, none, some (.int a2), some (.int (a3 + 1)), none, none] k150_175 rfl rfl rfl (by decide) rfl ?_
    refine q_goto (pc := 178) 167 k150_178 (by decide) ?_
    exact h
set_option maxRecDepth 20000 in
theorem vc151 {X : Nat × (Nat → Int32)} {d : Nat} {M : q_M} {K : Int32 → q_M → Prop} (h : q_Ex X d 151 4 [some (.ref 97), some (.int 0), some (.int 0)] [] M (q_ri K)) : q_Ci X d 151 [.ref 97] M K := by
  show q_Ex X d 151 0 [some (.ref 97), none, none] [] M (q_ri K)
  refine q_iconst (pc := 0) (v := 0) k151_0 (by decide) ?_
  refine q_istore_n (pc := 1) [some (.ref 97), some (.int 0), none] k151_1 rfl (by decide) rfl ?_
  refine q_iconst (pc := 2) (v := 0) k151_2 (by decide) ?_
  refine q_istore_n (pc := 3) [some (.ref 97), some (.int 0), some (.int 0)] k151_3 rfl (by decide) rfl ?_
  exact h
set_option maxRecDepth 20000 in
theorem vc151_p4 {X : Nat × (Nat → Int32)} {d : Nat} {M : q_M} {a1 a2 : Int32} {K : Int32 → q_M → Prop} (h : ((3 ≤ a2) → (K a1 (q_set M 99 7 0))) ∧ ((¬ 3 ≤ a2) → (vp_in (12 + a2) 135 ∧ (vp_in (12 + a2) 135 ∧ (q_Ex X d 151 4 [some (.ref 97), some (.int (a1 + (M 99 (Int32.toNatClampNeg (12 + a2))))), some (.int (a2 + 1))] [] (q_set M 99 (Int32.toNatClampNeg (12 + a2)) 0) (q_ri K)))))) : q_Ex X d 151 4 [some (.ref 97), some (.int a1), some (.int a2)] [] M (q_ri K) := by
  refine q_iload_n (pc := 4) k151_4 rfl ?_
  refine q_iconst (pc := 5) (v := 3) k151_5 (by decide) ?_
  refine q_icmp_ge (pc := 6) 37 k151_6 (by decide) (fun g => ?_) (fun g => ?_)
  · replace h := h.1 g
    refine q_aload_n (pc := 37) k151_37 rfl ?_
    refine q_getR (pc := 38) k151_38 fg151_13 rfl rfl ?_
    refine q_bipush (pc := 41) (v := 7) k151_41 (by decide) ?_
    refine q_iconst (pc := 43) (v := 0) k151_43 (by decide) ?_
    refine q_iastv (pc := 44) (k := 7) k151_44 rfl (by decide) rfl ?_
    refine q_iload_n (pc := 45) k151_45 rfl ?_
    exact q_ireturn (pc := 46) k151_46 rfl ⟨_, rfl, h⟩
  · replace h := h.2 g
    refine q_iload_n (pc := 9) k151_9 rfl ?_
    refine q_aload_n (pc := 10) k151_10 rfl ?_
    refine q_getR (pc := 11) k151_11 fg151_13 rfl rfl ?_
    refine q_bipush (pc := 14) (v := 12) k151_14 (by decide) ?_
    refine q_iload_n (pc := 16) k151_16 rfl ?_
    refine q_iadd (pc := 17) k151_17 ?_
    refine q_ialdv (pc := 18) (v := M 99 (Int32.toNatClampNeg (12 + a2))) k151_18 rfl h.1 rfl ?_
    replace h := h.2
    refine q_iadd (pc := 19) k151_19 ?_
    refine q_istore_n (pc := 20) [some (.ref 97), some (.int (a1 + (M 99 (Int32.toNatClampNeg (12 + a2))))), some (.int a2)] k151_20 rfl (by decide) rfl ?_
    refine q_aload_n (pc := 21) k151_21 rfl ?_
    refine q_getR (pc := 22) k151_22 fg151_13 rfl rfl ?_
    refine q_bipush (pc := 25) (v := 12) k151_25 (by decide) ?_
    refine q_iload_n (pc := 27) k151_27 rfl ?_
    refine q_iadd (pc := 28) k151_28 ?_
    refine q_iconst (pc := 29) (v := 0) k151_29 (by decide) ?_
    refine q_iastv (pc := 30) (k := (Int32.toNatClampNeg (12 + a2))) k151_30 rfl h.1 rfl ?_
    replace h := h.2
    refine q_iinc (pc := 31) (v := a2 + 1) [some (.ref 97), some (.int (a1 + (M 99 (Int32.toNatClampNeg (12 + a2))))), some (.int (a2 + 1))] k151_31 rfl rfl rfl (by decide) rfl ?_
    refine q_goto (pc := 34) 4 k151_34 (by decide) ?_
    exact h
set_option maxRecDepth 20000 in
theorem vc152 {X : Nat × (Nat → Int32)} {d : Nat} (hd : 0 < d) {M : q_M} {K : Int32 → q_M → Prop} (h : q_Cv X (d - 1) 94 [.ref 99, .ref 100] M (fun M1 => q_Ci X (d - 1) 95 [.ref 97] (q_set M1 97 4 1) (fun r3 M2 => K r3 M2))) : q_Ci X d 152 [.ref 97] M K := by
  show q_Ex X d 152 0 [some (.ref 97)] [] M (q_ri K)
  refine q_aload_n (pc := 0) k152_0 rfl ?_
  refine q_getR (pc := 1) k152_1 fg152_13 rfl rfl ?_
  refine q_aload_n (pc := 4) k152_4 rfl ?_
  refine q_getR (pc := 5) k152_5 fg152_16 rfl rfl ?_
  refine q_invS (pc := 8) (As := [.ref 99, .ref 100]) (st := []) k152_8 lm152_202 os94 rfl rfl (q_cat rfl) (Nat.le_of_ble_eq_true rfl) hd h ?_
  rintro v M1 ⟨rfl, h⟩
  show q_Ex X d 152 (8 + 3) [some (.ref 97)] [] M1 _
  refine q_aload_n (pc := 11) k152_11 rfl ?_
  refine q_iconst (pc := 12) (v := 1) k152_12 (by decide) ?_
  refine q_putZ (pc := 13) k152_13 fp152_215 rfl rfl (by decide) ?_
  refine q_aload_n (pc := 16) k152_16 rfl ?_
  refine q_invV (pc := 17) (As := []) (st := []) k152_17 lm152_64 ov95 rfl rfl rfl (q_cat rfl) (Nat.le_of_ble_eq_true rfl) hd h ?_
  rintro v M2 ⟨r3, rfl, h⟩
  show q_Ex X d 152 (17 + 3) [some (.ref 97)] [.int r3] M2 _
  exact q_ireturn (pc := 20) k152_20 rfl ⟨_, rfl, h⟩
set_option maxRecDepth 20000 in
theorem vc153 {X : Nat × (Nat → Int32)} {d : Nat} (hd : 0 < d) {M : q_M} {K : Int32 → q_M → Prop} (h : ((¬ (M 97 4) = 0) → (q_Cv X (d - 1) 94 [.ref 100, .ref 99] M (fun M1 => q_Ci X (d - 1) 95 [.ref 97] M1 (fun r3 M2 => K r3 M2)))) ∧ (((M 97 4) = 0) → (q_Ci X (d - 1) 91 [.ref 97, .int (-3)] M (fun r5 M4 => K r5 M4)))) : q_Ci X d 153 [.ref 97] M K := by
  show q_Ex X d 153 0 [some (.ref 97)] [] M (q_ri K)
  refine q_aload_n (pc := 0) k153_0 rfl ?_
  refine q_getIv (pc := 1) (v := M 97 4) k153_1 fg153_215 rfl rfl rfl ?_
  refine q_if_ne (pc := 4) 14 k153_4 (by decide) (fun g => ?_) (fun g => ?_)
  · replace h := h.1 g
    refine q_aload_n (pc := 14) k153_14 rfl ?_
    refine q_getR (pc := 15) k153_15 fg153_16 rfl rfl ?_
    refine q_aload_n (pc := 18) k153_18 rfl ?_
    refine q_getR (pc := 19) k153_19 fg153_13 rfl rfl ?_
    refine q_invS (pc := 22) (As := [.ref 100, .ref 99]) (st := []) k153_22 lm153_202 os94 rfl rfl (q_cat rfl) (Nat.le_of_ble_eq_true rfl) hd h ?_
    rintro v M1 ⟨rfl, h⟩
    show q_Ex X d 153 (22 + 3) [some (.ref 97)] [] M1 _
    refine q_aload_n (pc := 25) k153_25 rfl ?_
    refine q_invV (pc := 26) (As := []) (st := []) k153_26 lm153_64 ov95 rfl rfl rfl (q_cat rfl) (Nat.le_of_ble_eq_true rfl) hd h ?_
    rintro v M2 ⟨r3, rfl, h⟩
    show q_Ex X d 153 (26 + 3) [some (.ref 97)] [.int r3] M2 _
    exact q_ireturn (pc := 29) k153_29 rfl ⟨_, rfl, h⟩
  · replace h := h.2 g
    refine q_aload_n (pc := 7) k153_7 rfl ?_
    refine q_bipush (pc := 8) (v := (-3)) k153_8 (by decide) ?_
    refine q_invV (pc := 10) (As := [.int (-3)]) (st := []) k153_10 lm153_80 ov91 rfl rfl rfl (q_cat rfl) (Nat.le_of_ble_eq_true rfl) hd h ?_
    rintro v M4 ⟨r5, rfl, h⟩
    show q_Ex X d 153 (10 + 3) [some (.ref 97)] [.int r5] M4 _
    exact q_ireturn (pc := 13) k153_13 rfl ⟨_, rfl, h⟩
set_option maxRecDepth 20000 in
theorem vc154 {X : Nat × (Nat → Int32)} {d : Nat} (hd : 0 < d) {M : q_M} {a1 : Int32} {K : Int32 → q_M → Prop} (h : ((a1 ≤ 10) → ((a1 = 0 → (vp_in a1 135 ∧ (K (M 99 (Int32.toNatClampNeg a1)) M))) ∧ (a1 = 1 → (vp_in a1 135 ∧ (K (M 99 (Int32.toNatClampNeg a1)) M))) ∧ (a1 = 2 → (vp_in a1 135 ∧ (K (M 99 (Int32.toNatClampNeg a1)) M))) ∧ (a1 = 3 → (q_Ex X d 154 81 [some (.ref 97), none, some (.int 0), some (.int 0)] [] M (q_ri K))) ∧ (a1 = 4 → (K (M 99 7) M)) ∧ (a1 = 5 → (K (M 97 6) M)) ∧ (a1 = 6 → (K (M 99 3) M)) ∧ (a1 = 7 → (q_Ci X (d - 1) 107 [.ref 97] M (fun r2 M1 => K r2 M1))) ∧ ((¬ a1 = 0 ∧ ¬ a1 = 1 ∧ ¬ a1 = 2 ∧ ¬ a1 = 3 ∧ ¬ a1 = 4 ∧ ¬ a1 = 5 ∧ ¬ a1 = 6 ∧ ¬ a1 = 7) → (K (-9) M)))) ∧ ((¬ a1 ≤ 10) → (((17 ≤ a1) → ((a1 = 0 → (vp_in a1 135 ∧ (K (M 99 (Int32.toNatClampNeg a1)) M))) ∧ (a1 = 1 → (vp_in a1 135 ∧ (K (M 99 (Int32.toNatClampNeg a1)) M))) ∧ (a1 = 2 → (vp_in a1 135 ∧ (K (M 99 (Int32.toNatClampNeg a1)) M))) ∧ (a1 = 3 → (q_Ex X d 154 81 [some (.ref 97), none, some (.int 0), some (.int 0)] [] M (q_ri K))) ∧ (a1 = 4 → (K (M 99 7) M)) ∧ (a1 = 5 → (K (M 97 6) M)) ∧ (a1 = 6 → (K (M 99 3) M)) ∧ (a1 = 7 → (q_Ci X (d - 1) 107 [.ref 97] M (fun r4 M3 => K r4 M3))) ∧ ((¬ a1 = 0 ∧ ¬ a1 = 1 ∧ ¬ a1 = 2 ∧ ¬ a1 = 3 ∧ ¬ a1 = 4 ∧ ¬ a1 = 5 ∧ ¬ a1 = 6 ∧ ¬ a1 = 7) → (K (-9) M)))) ∧ ((¬ 17 ≤ a1) → (vp_in (a1 - 10) 7 ∧ (K (M 98 (Int32.toNatClampNeg (a1 - 10))) M)))))) : q_Ci X d 154 [.ref 97, .int a1] M K := by
  show q_Ex X d 154 0 [some (.ref 97), some (.int a1), none, none] [] M (q_ri K)
  refine q_iload_n (pc := 0) k154_0 rfl ?_
  refine q_bipush (pc := 1) (v := 10) k154_1 (by decide) ?_
  refine q_icmp_le (pc := 3) 22 k154_3 (by decide) (fun g => ?_) (fun g => ?_)
  · replace h := h.1 g
    refine q_iconst (pc := 22) (v := 0) k154_22 (by decide) ?_
    refine q_istore_n (pc := 23) [some (.ref 97), some (.int a1), some (.int 0), none] k154_23 rfl (by decide) rfl ?_
    refine q_iload_n (pc := 24) k154_24 rfl ?_
    obtain ⟨e0, e1, e2, e3, e4, e5, e6, e7, e999⟩ := h
    by_cases g0 : a1 = 0
    · have h := e0 g0
      refine q_tsIn (pc := 25) 72 k154_25 (off := 47) (by rw [g0]; decide) (by rw [g0]; decide) (by rw [g0]; rfl) (by decide) ?_
      refine q_aload_n (pc := 72) k154_72 rfl ?_
      refine q_getR (pc := 73) k154_73 fg154_13 rfl rfl ?_
      refine q_iload_n (pc := 76) k154_76 rfl ?_
      refine q_ialdv (pc := 77) (v := M 99 (Int32.toNatClampNeg a1)) k154_77 rfl h.1 rfl ?_
      replace h := h.2
      exact q_ireturn (pc := 78) k154_78 rfl ⟨_, rfl, h⟩
    by_cases g1 : a1 = 1
    · have h := e1 g1
      refine q_tsIn (pc := 25) 72 k154_25 (off := 47) (by rw [g1]; decide) (by rw [g1]; decide) (by rw [g1]; rfl) (by decide) ?_
      refine q_aload_n (pc := 72) k154_72 rfl ?_
      refine q_getR (pc := 73) k154_73 fg154_13 rfl rfl ?_
      refine q_iload_n (pc := 76) k154_76 rfl ?_
      refine q_ialdv (pc := 77) (v := M 99 (Int32.toNatClampNeg a1)) k154_77 rfl h.1 rfl ?_
      replace h := h.2
      exact q_ireturn (pc := 78) k154_78 rfl ⟨_, rfl, h⟩
    by_cases g2 : a1 = 2
    · have h := e2 g2
      refine q_tsIn (pc := 25) 72 k154_25 (off := 47) (by rw [g2]; decide) (by rw [g2]; decide) (by rw [g2]; rfl) (by decide) ?_
      refine q_aload_n (pc := 72) k154_72 rfl ?_
      refine q_getR (pc := 73) k154_73 fg154_13 rfl rfl ?_
      refine q_iload_n (pc := 76) k154_76 rfl ?_
      refine q_ialdv (pc := 77) (v := M 99 (Int32.toNatClampNeg a1)) k154_77 rfl h.1 rfl ?_
      replace h := h.2
      exact q_ireturn (pc := 78) k154_78 rfl ⟨_, rfl, h⟩
    by_cases g3 : a1 = 3
    · have h := e3 g3
      refine q_tsIn (pc := 25) 79 k154_25 (off := 54) (by rw [g3]; decide) (by rw [g3]; decide) (by rw [g3]; rfl) (by decide) ?_
      refine q_iconst (pc := 79) (v := 0) k154_79 (by decide) ?_
      refine q_istore_n (pc := 80) [some (.ref 97), some (.int a1), some (.int 0), some (.int 0)] k154_80 rfl (by decide) rfl ?_
      exact q_forget [some (.ref 97), none, some (.int 0), some (.int 0)] (q_subOk (And.intro rfl (And.intro rfl (And.intro rfl (trivial))))) h
    by_cases g4 : a1 = 4
    · have h := e4 g4
      refine q_tsIn (pc := 25) 114 k154_25 (off := 89) (by rw [g4]; decide) (by rw [g4]; decide) (by rw [g4]; rfl) (by decide) ?_
      refine q_aload_n (pc := 114) k154_114 rfl ?_
      refine q_getR (pc := 115) k154_115 fg154_13 rfl rfl ?_
      refine q_bipush (pc := 118) (v := 7) k154_118 (by decide) ?_
      refine q_ialdv (pc := 120) (v := M 99 7) k154_120 rfl (by decide) rfl ?_
      exact q_ireturn (pc := 121) k154_121 rfl ⟨_, rfl, h⟩
    by_cases g5 : a1 = 5
    · have h := e5 g5
      refine q_tsIn (pc := 25) 122 k154_25 (off := 97) (by rw [g5]; decide) (by rw [g5]; decide) (by rw [g5]; rfl) (by decide) ?_
      refine q_aload_n (pc := 122) k154_122 rfl ?_
      refine q_getIv (pc := 123) (v := M 97 6) k154_123 fg154_76 rfl rfl rfl ?_
      exact q_ireturn (pc := 126) k154_126 rfl ⟨_, rfl, h⟩
    by_cases g6 : a1 = 6
    · have h := e6 g6
      refine q_tsIn (pc := 25) 127 k154_25 (off := 102) (by rw [g6]; decide) (by rw [g6]; decide) (by rw [g6]; rfl) (by decide) ?_
      refine q_aload_n (pc := 127) k154_127 rfl ?_
      refine q_getR (pc := 128) k154_128 fg154_13 rfl rfl ?_
      refine q_iconst (pc := 131) (v := 3) k154_131 (by decide) ?_
      refine q_ialdv (pc := 132) (v := M 99 3) k154_132 rfl (by decide) rfl ?_
      exact q_ireturn (pc := 133) k154_133 rfl ⟨_, rfl, h⟩
    by_cases g7 : a1 = 7
    · have h := e7 g7
      refine q_tsIn (pc := 25) 134 k154_25 (off := 109) (by rw [g7]; decide) (by rw [g7]; decide) (by rw [g7]; rfl) (by decide) ?_
      refine q_aload_n (pc := 134) k154_134 rfl ?_
      refine q_invV (pc := 135) (As := []) (st := []) k154_135 lm154_103 ov107 rfl rfl rfl (q_cat rfl) (Nat.le_of_ble_eq_true rfl) hd h ?_
      rintro v M1 ⟨r2, rfl, h⟩
      show q_Ex X d 154 (135 + 3) [some (.ref 97), some (.int a1), some (.int 0), none] [.int r2] M1 _
      exact q_ireturn (pc := 138) k154_138 rfl ⟨_, rfl, h⟩
    have h := e999 ⟨g0, g1, g2, g3, g4, g5, g6, g7⟩
    refine q_tsOut (pc := 25) 139 k154_25 (by have i0 := lv_neT g0 (a := 0) rfl; have i1 := lv_neT g1 (a := 1) rfl; have i2 := lv_neT g2 (a := 2) rfl; have i3 := lv_neT g3 (a := 3) rfl; have i4 := lv_neT g4 (a := 4) rfl; have i5 := lv_neT g5 (a := 5) rfl; have i6 := lv_neT g6 (a := 6) rfl; have i7 := lv_neT g7 (a := 7) rfl; omega) (by decide) ?_
    refine q_bipush (pc := 139) (v := (-9)) k154_139 (by decide) ?_
    exact q_ireturn (pc := 141) k154_141 rfl ⟨_, rfl, h⟩
  · replace h := h.2 g
    refine q_iload_n (pc := 6) k154_6 rfl ?_
    refine q_bipush (pc := 7) (v := 17) k154_7 (by decide) ?_
    refine q_icmp_ge (pc := 9) 22 k154_9 (by decide) (fun g => ?_) (fun g => ?_)
    · replace h := h.1 g
      refine q_iconst (pc := 22) (v := 0) k154_22 (by decide) ?_
      refine q_istore_n (pc := 23) [some (.ref 97), some (.int a1), some (.int 0), none] k154_23 rfl (by decide) rfl ?_
      refine q_iload_n (pc := 24) k154_24 rfl ?_
      obtain ⟨e0, e1, e2, e3, e4, e5, e6, e7, e999⟩ := h
      by_cases g0 : a1 = 0
      · have h := e0 g0
        refine q_tsIn (pc := 25) 72 k154_25 (off := 47) (by rw [g0]; decide) (by rw [g0]; decide) (by rw [g0]; rfl) (by decide) ?_
        refine q_aload_n (pc := 72) k154_72 rfl ?_
        refine q_getR (pc := 73) k154_73 fg154_13 rfl rfl ?_
        refine q_iload_n (pc := 76) k154_76 rfl ?_
        refine q_ialdv (pc := 77) (v := M 99 (Int32.toNatClampNeg a1)) k154_77 rfl h.1 rfl ?_
        replace h := h.2
        exact q_ireturn (pc := 78) k154_78 rfl ⟨_, rfl, h⟩
      by_cases g1 : a1 = 1
      · have h := e1 g1
        refine q_tsIn (pc := 25) 72 k154_25 (off := 47) (by rw [g1]; decide) (by rw [g1]; decide) (by rw [g1]; rfl) (by decide) ?_
        refine q_aload_n (pc := 72) k154_72 rfl ?_
        refine q_getR (pc := 73) k154_73 fg154_13 rfl rfl ?_
        refine q_iload_n (pc := 76) k154_76 rfl ?_
        refine q_ialdv (pc := 77) (v := M 99 (Int32.toNatClampNeg a1)) k154_77 rfl h.1 rfl ?_
        replace h := h.2
        exact q_ireturn (pc := 78) k154_78 rfl ⟨_, rfl, h⟩
      by_cases g2 : a1 = 2
      · have h := e2 g2
        refine q_tsIn (pc := 25) 72 k154_25 (off := 47) (by rw [g2]; decide) (by rw [g2]; decide) (by rw [g2]; rfl) (by decide) ?_
        refine q_aload_n (pc := 72) k154_72 rfl ?_
        refine q_getR (pc := 73) k154_73 fg154_13 rfl rfl ?_
        refine q_iload_n (pc := 76) k154_76 rfl ?_
        refine q_ialdv (pc := 77) (v := M 99 (Int32.toNatClampNeg a1)) k154_77 rfl h.1 rfl ?_
        replace h := h.2
        exact q_ireturn (pc := 78) k154_78 rfl ⟨_, rfl, h⟩
      by_cases g3 : a1 = 3
      · have h := e3 g3
        refine q_tsIn (pc := 25) 79 k154_25 (off := 54) (by rw [g3]; decide) (by rw [g3]; decide) (by rw [g3]; rfl) (by decide) ?_
        refine q_iconst (pc := 79) (v := 0) k154_79 (by decide) ?_
        refine q_istore_n (pc := 80) [some (.ref 97), some (.int a1), some (.int 0), some (.int 0)] k154_80 rfl (by decide) rfl ?_
        exact q_forget [some (.ref 97), none, some (.int 0), some (.int 0)] (q_subOk (And.intro rfl (And.intro rfl (And.intro rfl (trivial))))) h
      by_cases g4 : a1 = 4
      · have h := e4 g4
        refine q_tsIn (pc := 25) 114 k154_25 (off := 89) (by rw [g4]; decide) (by rw [g4]; decide) (by rw [g4]; rfl) (by decide) ?_
        refine q_aload_n (pc := 114) k154_114 rfl ?_
        refine q_getR (pc := 115) k154_115 fg154_13 rfl rfl ?_
        refine q_bipush (pc := 118) (v := 7) k154_118 (by decide) ?_
        refine q_ialdv (pc := 120) (v := M 99 7) k154_120 rfl (by decide) rfl ?_
        exact q_ireturn (pc := 121) k154_121 rfl ⟨_, rfl, h⟩
      by_cases g5 : a1 = 5
      · have h := e5 g5
        refine q_tsIn (pc := 25) 122 k154_25 (off := 97) (by rw [g5]; decide) (by rw [g5]; decide) (by rw [g5]; rfl) (by decide) ?_
        refine q_aload_n (pc := 122) k154_122 rfl ?_
        refine q_getIv (pc := 123) (v := M 97 6) k154_123 fg154_76 rfl rfl rfl ?_
        exact q_ireturn (pc := 126) k154_126 rfl ⟨_, rfl, h⟩
      by_cases g6 : a1 = 6
      · have h := e6 g6
        refine q_tsIn (pc := 25) 127 k154_25 (off := 102) (by rw [g6]; decide) (by rw [g6]; decide) (by rw [g6]; rfl) (by decide) ?_
        refine q_aload_n (pc := 127) k154_127 rfl ?_
        refine q_getR (pc := 128) k154_128 fg154_13 rfl rfl ?_
        refine q_iconst (pc := 131) (v := 3) k154_131 (by decide) ?_
        refine q_ialdv (pc := 132) (v := M 99 3) k154_132 rfl (by decide) rfl ?_
        exact q_ireturn (pc := 133) k154_133 rfl ⟨_, rfl, h⟩
      by_cases g7 : a1 = 7
      · have h := e7 g7
        refine q_tsIn (pc := 25) 134 k154_25 (off := 109) (by rw [g7]; decide) (by rw [g7]; decide) (by rw [g7]; rfl) (by decide) ?_
        refine q_aload_n (pc := 134) k154_134 rfl ?_
        refine q_invV (pc := 135) (As := []) (st := []) k154_135 lm154_103 ov107 rfl rfl rfl (q_cat rfl) (Nat.le_of_ble_eq_true rfl) hd h ?_
        rintro v M3 ⟨r4, rfl, h⟩
        show q_Ex X d 154 (135 + 3) [some (.ref 97), some (.int a1), some (.int 0), none] [.int r4] M3 _
        exact q_ireturn (pc := 138) k154_138 rfl ⟨_, rfl, h⟩
      have h := e999 ⟨g0, g1, g2, g3, g4, g5, g6, g7⟩
      refine q_tsOut (pc := 25) 139 k154_25 (by have i0 := lv_neT g0 (a := 0) rfl; have i1 := lv_neT g1 (a := 1) rfl; have i2 := lv_neT g2 (a := 2) rfl; have i3 := lv_neT g3 (a := 3) rfl; have i4 := lv_neT g4 (a := 4) rfl; have i5 := lv_neT g5 (a := 5) rfl; have i6 := lv_neT g6 (a := 6) rfl; have i7 := lv_neT g7 (a := 7) rfl; omega) (by decide) ?_
      refine q_bipush (pc := 139) (v := (-9)) k154_139 (by decide) ?_
      exact q_ireturn (pc := 141) k154_141 rfl ⟨_, rfl, h⟩
    · replace h := h.2 g
      refine q_aload_n (pc := 12) k154_12 rfl ?_
      refine q_getR (pc := 13) k154_13 fg154_7 rfl rfl ?_
      refine q_iload_n (pc := 16) k154_16 rfl ?_
      refine q_bipush (pc := 17) (v := 10) k154_17 (by decide) ?_
      refine q_isub (pc := 19) k154_19 ?_
      refine q_ialdv (pc := 20) (v := M 98 (Int32.toNatClampNeg (a1 - 10))) k154_20 rfl h.1 rfl ?_
      replace h := h.2
      exact q_ireturn (pc := 21) k154_21 rfl ⟨_, rfl, h⟩
set_option maxRecDepth 20000 in
theorem vc154_p81 {X : Nat × (Nat → Int32)} {d : Nat} (hd : 0 < d) {M : q_M} {a2 a3 : Int32} {K : Int32 → q_M → Prop} (h : q_Ci X (d - 1) 95 [.ref 97] M (fun r2 M1 => ((r2 ≤ a3) → (K a2 M1)) ∧ ((¬ r2 ≤ a3) → (q_Ci X (d - 1) 98 [.ref 97, .int a3] M1 (fun r4 M3 => ((¬ r4 = 1) → (q_Ex X d 154 81 [some (.ref 97), none, some (.int (a2 + 0)), some (.int (a3 + 1))] [] M3 (q_ri K))) ∧ ((r4 = 1) → (q_Ex X d 154 81 [some (.ref 97), none, some (.int (a2 + 1)), some (.int (a3 + 1))] [] M3 (q_ri K)))))))) : q_Ex X d 154 81 [some (.ref 97), none, some (.int a2), some (.int a3)] [] M (q_ri K) := by
  refine q_iload_n (pc := 81) k154_81 rfl ?_
  refine q_aload_n (pc := 82) k154_82 rfl ?_
  refine q_invV (pc := 83) (As := []) (st := [.int a3]) k154_83 lm154_64 ov95 rfl rfl rfl (q_cat rfl) (Nat.le_of_ble_eq_true rfl) hd h ?_
  rintro v M1 ⟨r2, rfl, h⟩
  show q_Ex X d 154 (83 + 3) [some (.ref 97), none, some (.int a2), some (.int a3)] [.int r2, .int a3] M1 _
  refine q_icmp_ge (pc := 86) 112 k154_86 (by decide) (fun g => ?_) (fun g => ?_)
  · replace h := h.1 g
    refine q_iload_n (pc := 112) k154_112 rfl ?_
    exact q_ireturn (pc := 113) k154_113 rfl ⟨_, rfl, h⟩
  · replace h := h.2 g
    refine q_iload_n (pc := 89) k154_89 rfl ?_
    refine q_aload_n (pc := 90) k154_90 rfl ?_
    refine q_iload_n (pc := 91) k154_91 rfl ?_
    refine q_invV (pc := 92) (As := [.int a3]) (st := [.int a2]) k154_92 lm154_106 ov98 rfl rfl rfl (q_cat rfl) (Nat.le_of_ble_eq_true rfl) hd h ?_
    rintro v M3 ⟨r4, rfl, h⟩
    show q_Ex X d 154 (92 + 3) [some (.ref 97), none, some (.int a2), some (.int a3)] [.int r4, .int a2] M3 _
    refine q_iconst (pc := 95) (v := 1) k154_95 (by decide) ?_
    refine q_icmp_ne (pc := 96) 103 k154_96 (by decide) (fun g => ?_) (fun g => ?_)
    · replace h := h.1 g
      refine q_iconst (pc := 103) (v := 0) k154_103 (by decide) ?_
      refine q_iadd (pc := 104) k154_104 ?_
      refine q_istore_n (pc := 105) [some (.ref 97), none, some (.int (a2 + 0)), some (.int a3)] k154_105 rfl (by decide) rfl ?_
      refine q_iinc (pc := 106) (v := a3 + 1) [some (.ref 97), none, some (.int (a2 + 0)), some (.int (a3 + 1))] k154_106 rfl rfl rfl (by decide) rfl ?_
      refine q_goto (pc := 109) 81 k154_109 (by decide) ?_
      exact h
    · replace h := h.2 g
      refine q_iconst (pc := 99) (v := 1) k154_99 (by decide) ?_
      refine q_goto (pc := 100) 104 k154_100 (by decide) ?_
      refine q_iadd (pc := 104) k154_104 ?_
      refine q_istore_n (pc := 105) [some (.ref 97), none, some (.int (a2 + 1)), some (.int a3)] k154_105 rfl (by decide) rfl ?_
      refine q_iinc (pc := 106) (v := a3 + 1) [some (.ref 97), none, some (.int (a2 + 1)), some (.int (a3 + 1))] k154_106 rfl rfl rfl (by decide) rfl ?_
      refine q_goto (pc := 109) 81 k154_109 (by decide) ?_
      exact h
set_option maxRecDepth 20000 in
theorem vc94_99_114 {X : Nat × (Nat → Int32)} {d : Nat} {M : q_M} {K : q_M → Prop} (h : q_Ex X d 94 2 [some (.ref 99), some (.ref 114), some (.int 0)] [] M (q_rn K)) : q_Cv X d 94 [.ref 99, .ref 114] M K := by
  show q_Ex X d 94 0 [some (.ref 99), some (.ref 114), none] [] M (q_rn K)
  refine q_iconst (pc := 0) (v := 0) k94_0 (by decide) ?_
  refine q_istore_n (pc := 1) [some (.ref 99), some (.ref 114), some (.int 0)] k94_1 rfl (by decide) rfl ?_
  exact h
set_option maxRecDepth 20000 in
theorem vc94_99_114_p2 {X : Nat × (Nat → Int32)} {d : Nat} {M : q_M} {a2 : Int32} {K : q_M → Prop} (h : ((135 ≤ a2) → (K M)) ∧ ((¬ 135 ≤ a2) → (vp_in a2 135 ∧ (vp_in a2 135 ∧ (q_Ex X d 94 2 [some (.ref 99), some (.ref 114), some (.int (a2 + 1))] [] (q_set M 114 (Int32.toNatClampNeg a2) (M 99 (Int32.toNatClampNeg a2))) (q_rn K)))))) : q_Ex X d 94 2 [some (.ref 99), some (.ref 114), some (.int a2)] [] M (q_rn K) := by
  refine q_iload_n (pc := 2) k94_2 rfl ?_
  refine q_sipush (pc := 3) (v := 135) k94_3 (by decide) ?_
  refine q_icmp_ge (pc := 6) 21 k94_6 (by decide) (fun g => ?_) (fun g => ?_)
  · replace h := h.1 g
    exact q_return (pc := 21) k94_21 rfl ⟨rfl, h⟩
  · replace h := h.2 g
    refine q_aload_n (pc := 9) k94_9 rfl ?_
    refine q_iload_n (pc := 10) k94_10 rfl ?_
    refine q_aload_n (pc := 11) k94_11 rfl ?_
    refine q_iload_n (pc := 12) k94_12 rfl ?_
    refine q_ialdv (pc := 13) (v := M 99 (Int32.toNatClampNeg a2)) k94_13 rfl h.1 rfl ?_
    replace h := h.2
    refine q_iastv (pc := 14) (k := (Int32.toNatClampNeg a2)) k94_14 rfl h.1 rfl ?_
    replace h := h.2
    refine q_iinc (pc := 15) (v := a2 + 1) [some (.ref 99), some (.ref 114), some (.int (a2 + 1))] k94_15 rfl rfl rfl (by decide) rfl ?_
    refine q_goto (pc := 18) 2 k94_18 (by decide) ?_
    exact h
set_option maxRecDepth 20000 in
theorem vc94_114_99 {X : Nat × (Nat → Int32)} {d : Nat} {M : q_M} {K : q_M → Prop} (h : q_Ex X d 94 2 [some (.ref 114), some (.ref 99), some (.int 0)] [] M (q_rn K)) : q_Cv X d 94 [.ref 114, .ref 99] M K := by
  show q_Ex X d 94 0 [some (.ref 114), some (.ref 99), none] [] M (q_rn K)
  refine q_iconst (pc := 0) (v := 0) k94_0 (by decide) ?_
  refine q_istore_n (pc := 1) [some (.ref 114), some (.ref 99), some (.int 0)] k94_1 rfl (by decide) rfl ?_
  exact h
set_option maxRecDepth 20000 in
theorem vc94_114_99_p2 {X : Nat × (Nat → Int32)} {d : Nat} {M : q_M} {a2 : Int32} {K : q_M → Prop} (h : ((135 ≤ a2) → (K M)) ∧ ((¬ 135 ≤ a2) → (vp_in a2 135 ∧ (vp_in a2 135 ∧ (q_Ex X d 94 2 [some (.ref 114), some (.ref 99), some (.int (a2 + 1))] [] (q_set M 99 (Int32.toNatClampNeg a2) (M 114 (Int32.toNatClampNeg a2))) (q_rn K)))))) : q_Ex X d 94 2 [some (.ref 114), some (.ref 99), some (.int a2)] [] M (q_rn K) := by
  refine q_iload_n (pc := 2) k94_2 rfl ?_
  refine q_sipush (pc := 3) (v := 135) k94_3 (by decide) ?_
  refine q_icmp_ge (pc := 6) 21 k94_6 (by decide) (fun g => ?_) (fun g => ?_)
  · replace h := h.1 g
    exact q_return (pc := 21) k94_21 rfl ⟨rfl, h⟩
  · replace h := h.2 g
    refine q_aload_n (pc := 9) k94_9 rfl ?_
    refine q_iload_n (pc := 10) k94_10 rfl ?_
    refine q_aload_n (pc := 11) k94_11 rfl ?_
    refine q_iload_n (pc := 12) k94_12 rfl ?_
    refine q_ialdv (pc := 13) (v := M 114 (Int32.toNatClampNeg a2)) k94_13 rfl h.1 rfl ?_
    replace h := h.2
    refine q_iastv (pc := 14) (k := (Int32.toNatClampNeg a2)) k94_14 rfl h.1 rfl ?_
    replace h := h.2
    refine q_iinc (pc := 15) (v := a2 + 1) [some (.ref 114), some (.ref 99), some (.int (a2 + 1))] k94_15 rfl rfl rfl (by decide) rfl ?_
    refine q_goto (pc := 18) 2 k94_18 (by decide) ?_
    exact h
set_option maxRecDepth 20000 in
theorem vc94_99_100 {X : Nat × (Nat → Int32)} {d : Nat} {M : q_M} {K : q_M → Prop} (h : q_Ex X d 94 2 [some (.ref 99), some (.ref 100), some (.int 0)] [] M (q_rn K)) : q_Cv X d 94 [.ref 99, .ref 100] M K := by
  show q_Ex X d 94 0 [some (.ref 99), some (.ref 100), none] [] M (q_rn K)
  refine q_iconst (pc := 0) (v := 0) k94_0 (by decide) ?_
  refine q_istore_n (pc := 1) [some (.ref 99), some (.ref 100), some (.int 0)] k94_1 rfl (by decide) rfl ?_
  exact h
set_option maxRecDepth 20000 in
theorem vc94_99_100_p2 {X : Nat × (Nat → Int32)} {d : Nat} {M : q_M} {a2 : Int32} {K : q_M → Prop} (h : ((135 ≤ a2) → (K M)) ∧ ((¬ 135 ≤ a2) → (vp_in a2 135 ∧ (vp_in a2 135 ∧ (q_Ex X d 94 2 [some (.ref 99), some (.ref 100), some (.int (a2 + 1))] [] (q_set M 100 (Int32.toNatClampNeg a2) (M 99 (Int32.toNatClampNeg a2))) (q_rn K)))))) : q_Ex X d 94 2 [some (.ref 99), some (.ref 100), some (.int a2)] [] M (q_rn K) := by
  refine q_iload_n (pc := 2) k94_2 rfl ?_
  refine q_sipush (pc := 3) (v := 135) k94_3 (by decide) ?_
  refine q_icmp_ge (pc := 6) 21 k94_6 (by decide) (fun g => ?_) (fun g => ?_)
  · replace h := h.1 g
    exact q_return (pc := 21) k94_21 rfl ⟨rfl, h⟩
  · replace h := h.2 g
    refine q_aload_n (pc := 9) k94_9 rfl ?_
    refine q_iload_n (pc := 10) k94_10 rfl ?_
    refine q_aload_n (pc := 11) k94_11 rfl ?_
    refine q_iload_n (pc := 12) k94_12 rfl ?_
    refine q_ialdv (pc := 13) (v := M 99 (Int32.toNatClampNeg a2)) k94_13 rfl h.1 rfl ?_
    replace h := h.2
    refine q_iastv (pc := 14) (k := (Int32.toNatClampNeg a2)) k94_14 rfl h.1 rfl ?_
    replace h := h.2
    refine q_iinc (pc := 15) (v := a2 + 1) [some (.ref 99), some (.ref 100), some (.int (a2 + 1))] k94_15 rfl rfl rfl (by decide) rfl ?_
    refine q_goto (pc := 18) 2 k94_18 (by decide) ?_
    exact h
set_option maxRecDepth 20000 in
theorem vc94_100_99 {X : Nat × (Nat → Int32)} {d : Nat} {M : q_M} {K : q_M → Prop} (h : q_Ex X d 94 2 [some (.ref 100), some (.ref 99), some (.int 0)] [] M (q_rn K)) : q_Cv X d 94 [.ref 100, .ref 99] M K := by
  show q_Ex X d 94 0 [some (.ref 100), some (.ref 99), none] [] M (q_rn K)
  refine q_iconst (pc := 0) (v := 0) k94_0 (by decide) ?_
  refine q_istore_n (pc := 1) [some (.ref 100), some (.ref 99), some (.int 0)] k94_1 rfl (by decide) rfl ?_
  exact h
set_option maxRecDepth 20000 in
theorem vc94_100_99_p2 {X : Nat × (Nat → Int32)} {d : Nat} {M : q_M} {a2 : Int32} {K : q_M → Prop} (h : ((135 ≤ a2) → (K M)) ∧ ((¬ 135 ≤ a2) → (vp_in a2 135 ∧ (vp_in a2 135 ∧ (q_Ex X d 94 2 [some (.ref 100), some (.ref 99), some (.int (a2 + 1))] [] (q_set M 99 (Int32.toNatClampNeg a2) (M 100 (Int32.toNatClampNeg a2))) (q_rn K)))))) : q_Ex X d 94 2 [some (.ref 100), some (.ref 99), some (.int a2)] [] M (q_rn K) := by
  refine q_iload_n (pc := 2) k94_2 rfl ?_
  refine q_sipush (pc := 3) (v := 135) k94_3 (by decide) ?_
  refine q_icmp_ge (pc := 6) 21 k94_6 (by decide) (fun g => ?_) (fun g => ?_)
  · replace h := h.1 g
    exact q_return (pc := 21) k94_21 rfl ⟨rfl, h⟩
  · replace h := h.2 g
    refine q_aload_n (pc := 9) k94_9 rfl ?_
    refine q_iload_n (pc := 10) k94_10 rfl ?_
    refine q_aload_n (pc := 11) k94_11 rfl ?_
    refine q_iload_n (pc := 12) k94_12 rfl ?_
    refine q_ialdv (pc := 13) (v := M 100 (Int32.toNatClampNeg a2)) k94_13 rfl h.1 rfl ?_
    replace h := h.2
    refine q_iastv (pc := 14) (k := (Int32.toNatClampNeg a2)) k94_14 rfl h.1 rfl ?_
    replace h := h.2
    refine q_iinc (pc := 15) (v := a2 + 1) [some (.ref 100), some (.ref 99), some (.int (a2 + 1))] k94_15 rfl rfl rfl (by decide) rfl ?_
    refine q_goto (pc := 18) 2 k94_18 (by decide) ?_
    exact h
set_option maxRecDepth 20000 in
theorem vc155 {X : Nat × (Nat → Int32)} {d : Nat} {M : q_M} {a0 : Int32} {K : Int32 → q_M → Prop} (h : K ((((((((a0 - (((Int32.toUInt32 a0 >>> (Int32.toUInt32 1 &&& Int32.toUInt32 31)).toInt32) &&& 1431655765)) &&& 858993459) + (((Int32.toUInt32 (a0 - (((Int32.toUInt32 a0 >>> (Int32.toUInt32 1 &&& Int32.toUInt32 31)).toInt32) &&& 1431655765)) >>> (Int32.toUInt32 2 &&& Int32.toUInt32 31)).toInt32) &&& 858993459)) + ((Int32.toUInt32 (((a0 - (((Int32.toUInt32 a0 >>> (Int32.toUInt32 1 &&& Int32.toUInt32 31)).toInt32) &&& 1431655765)) &&& 858993459) + (((Int32.toUInt32 (a0 - (((Int32.toUInt32 a0 >>> (Int32.toUInt32 1 &&& Int32.toUInt32 31)).toInt32) &&& 1431655765)) >>> (Int32.toUInt32 2 &&& Int32.toUInt32 31)).toInt32) &&& 858993459)) >>> (Int32.toUInt32 4 &&& Int32.toUInt32 31)).toInt32)) &&& 252645135) + ((Int32.toUInt32 (((((a0 - (((Int32.toUInt32 a0 >>> (Int32.toUInt32 1 &&& Int32.toUInt32 31)).toInt32) &&& 1431655765)) &&& 858993459) + (((Int32.toUInt32 (a0 - (((Int32.toUInt32 a0 >>> (Int32.toUInt32 1 &&& Int32.toUInt32 31)).toInt32) &&& 1431655765)) >>> (Int32.toUInt32 2 &&& Int32.toUInt32 31)).toInt32) &&& 858993459)) + ((Int32.toUInt32 (((a0 - (((Int32.toUInt32 a0 >>> (Int32.toUInt32 1 &&& Int32.toUInt32 31)).toInt32) &&& 1431655765)) &&& 858993459) + (((Int32.toUInt32 (a0 - (((Int32.toUInt32 a0 >>> (Int32.toUInt32 1 &&& Int32.toUInt32 31)).toInt32) &&& 1431655765)) >>> (Int32.toUInt32 2 &&& Int32.toUInt32 31)).toInt32) &&& 858993459)) >>> (Int32.toUInt32 4 &&& Int32.toUInt32 31)).toInt32)) &&& 252645135) >>> (Int32.toUInt32 8 &&& Int32.toUInt32 31)).toInt32)) + ((Int32.toUInt32 ((((((a0 - (((Int32.toUInt32 a0 >>> (Int32.toUInt32 1 &&& Int32.toUInt32 31)).toInt32) &&& 1431655765)) &&& 858993459) + (((Int32.toUInt32 (a0 - (((Int32.toUInt32 a0 >>> (Int32.toUInt32 1 &&& Int32.toUInt32 31)).toInt32) &&& 1431655765)) >>> (Int32.toUInt32 2 &&& Int32.toUInt32 31)).toInt32) &&& 858993459)) + ((Int32.toUInt32 (((a0 - (((Int32.toUInt32 a0 >>> (Int32.toUInt32 1 &&& Int32.toUInt32 31)).toInt32) &&& 1431655765)) &&& 858993459) + (((Int32.toUInt32 (a0 - (((Int32.toUInt32 a0 >>> (Int32.toUInt32 1 &&& Int32.toUInt32 31)).toInt32) &&& 1431655765)) >>> (Int32.toUInt32 2 &&& Int32.toUInt32 31)).toInt32) &&& 858993459)) >>> (Int32.toUInt32 4 &&& Int32.toUInt32 31)).toInt32)) &&& 252645135) + ((Int32.toUInt32 (((((a0 - (((Int32.toUInt32 a0 >>> (Int32.toUInt32 1 &&& Int32.toUInt32 31)).toInt32) &&& 1431655765)) &&& 858993459) + (((Int32.toUInt32 (a0 - (((Int32.toUInt32 a0 >>> (Int32.toUInt32 1 &&& Int32.toUInt32 31)).toInt32) &&& 1431655765)) >>> (Int32.toUInt32 2 &&& Int32.toUInt32 31)).toInt32) &&& 858993459)) + ((Int32.toUInt32 (((a0 - (((Int32.toUInt32 a0 >>> (Int32.toUInt32 1 &&& Int32.toUInt32 31)).toInt32) &&& 1431655765)) &&& 858993459) + (((Int32.toUInt32 (a0 - (((Int32.toUInt32 a0 >>> (Int32.toUInt32 1 &&& Int32.toUInt32 31)).toInt32) &&& 1431655765)) >>> (Int32.toUInt32 2 &&& Int32.toUInt32 31)).toInt32) &&& 858993459)) >>> (Int32.toUInt32 4 &&& Int32.toUInt32 31)).toInt32)) &&& 252645135) >>> (Int32.toUInt32 8 &&& Int32.toUInt32 31)).toInt32)) >>> (Int32.toUInt32 16 &&& Int32.toUInt32 31)).toInt32)) &&& 63) M) : q_Ci X d 155 [.int a0] M K := by
  show q_Ex X d 155 0 [some (.int a0)] [] M (q_ri K)
  refine q_iload_n (pc := 0) k155_0 rfl ?_
  refine q_iload_n (pc := 1) k155_1 rfl ?_
  refine q_iconst (pc := 2) (v := 1) k155_2 (by decide) ?_
  refine q_iushr (pc := 3) k155_3 ?_
  refine q_ldcw (pc := 4) (v := 1431655765) k155_4 ld155_265 ?_
  refine q_iand (pc := 7) k155_7 ?_
  refine q_isub (pc := 8) k155_8 ?_
  refine q_istore_n (pc := 9) [some (.int (a0 - (((Int32.toUInt32 a0 >>> (Int32.toUInt32 1 &&& Int32.toUInt32 31)).toInt32) &&& 1431655765)))] k155_9 rfl (by decide) rfl ?_
  refine q_iload_n (pc := 10) k155_10 rfl ?_
  refine q_ldcw (pc := 11) (v := 858993459) k155_11 ld155_266 ?_
  refine q_iand (pc := 14) k155_14 ?_
  refine q_iload_n (pc := 15) k155_15 rfl ?_
  refine q_iconst (pc := 16) (v := 2) k155_16 (by decide) ?_
  refine q_iushr (pc := 17) k155_17 ?_
  refine q_ldcw (pc := 18) (v := 858993459) k155_18 ld155_266 ?_
  refine q_iand (pc := 21) k155_21 ?_
  refine q_iadd (pc := 22) k155_22 ?_
  refine q_istore_n (pc := 23) [some (.int (((a0 - (((Int32.toUInt32 a0 >>> (Int32.toUInt32 1 &&& Int32.toUInt32 31)).toInt32) &&& 1431655765)) &&& 858993459) + (((Int32.toUInt32 (a0 - (((Int32.toUInt32 a0 >>> (Int32.toUInt32 1 &&& Int32.toUInt32 31)).toInt32) &&& 1431655765)) >>> (Int32.toUInt32 2 &&& Int32.toUInt32 31)).toInt32) &&& 858993459)))] k155_23 rfl (by decide) rfl ?_
  refine q_iload_n (pc := 24) k155_24 rfl ?_
  refine q_iload_n (pc := 25) k155_25 rfl ?_
  refine q_iconst (pc := 26) (v := 4) k155_26 (by decide) ?_
  refine q_iushr (pc := 27) k155_27 ?_
  refine q_iadd (pc := 28) k155_28 ?_
  refine q_ldcw (pc := 29) (v := 252645135) k155_29 ld155_267 ?_
  refine q_iand (pc := 32) k155_32 ?_
  refine q_istore_n (pc := 33) [some (.int (((((a0 - (((Int32.toUInt32 a0 >>> (Int32.toUInt32 1 &&& Int32.toUInt32 31)).toInt32) &&& 1431655765)) &&& 858993459) + (((Int32.toUInt32 (a0 - (((Int32.toUInt32 a0 >>> (Int32.toUInt32 1 &&& Int32.toUInt32 31)).toInt32) &&& 1431655765)) >>> (Int32.toUInt32 2 &&& Int32.toUInt32 31)).toInt32) &&& 858993459)) + ((Int32.toUInt32 (((a0 - (((Int32.toUInt32 a0 >>> (Int32.toUInt32 1 &&& Int32.toUInt32 31)).toInt32) &&& 1431655765)) &&& 858993459) + (((Int32.toUInt32 (a0 - (((Int32.toUInt32 a0 >>> (Int32.toUInt32 1 &&& Int32.toUInt32 31)).toInt32) &&& 1431655765)) >>> (Int32.toUInt32 2 &&& Int32.toUInt32 31)).toInt32) &&& 858993459)) >>> (Int32.toUInt32 4 &&& Int32.toUInt32 31)).toInt32)) &&& 252645135))] k155_33 rfl (by decide) rfl ?_
  refine q_iload_n (pc := 34) k155_34 rfl ?_
  refine q_iload_n (pc := 35) k155_35 rfl ?_
  refine q_bipush (pc := 36) (v := 8) k155_36 (by decide) ?_
  refine q_iushr (pc := 38) k155_38 ?_
  refine q_iadd (pc := 39) k155_39 ?_
  refine q_istore_n (pc := 40) [some (.int ((((((a0 - (((Int32.toUInt32 a0 >>> (Int32.toUInt32 1 &&& Int32.toUInt32 31)).toInt32) &&& 1431655765)) &&& 858993459) + (((Int32.toUInt32 (a0 - (((Int32.toUInt32 a0 >>> (Int32.toUInt32 1 &&& Int32.toUInt32 31)).toInt32) &&& 1431655765)) >>> (Int32.toUInt32 2 &&& Int32.toUInt32 31)).toInt32) &&& 858993459)) + ((Int32.toUInt32 (((a0 - (((Int32.toUInt32 a0 >>> (Int32.toUInt32 1 &&& Int32.toUInt32 31)).toInt32) &&& 1431655765)) &&& 858993459) + (((Int32.toUInt32 (a0 - (((Int32.toUInt32 a0 >>> (Int32.toUInt32 1 &&& Int32.toUInt32 31)).toInt32) &&& 1431655765)) >>> (Int32.toUInt32 2 &&& Int32.toUInt32 31)).toInt32) &&& 858993459)) >>> (Int32.toUInt32 4 &&& Int32.toUInt32 31)).toInt32)) &&& 252645135) + ((Int32.toUInt32 (((((a0 - (((Int32.toUInt32 a0 >>> (Int32.toUInt32 1 &&& Int32.toUInt32 31)).toInt32) &&& 1431655765)) &&& 858993459) + (((Int32.toUInt32 (a0 - (((Int32.toUInt32 a0 >>> (Int32.toUInt32 1 &&& Int32.toUInt32 31)).toInt32) &&& 1431655765)) >>> (Int32.toUInt32 2 &&& Int32.toUInt32 31)).toInt32) &&& 858993459)) + ((Int32.toUInt32 (((a0 - (((Int32.toUInt32 a0 >>> (Int32.toUInt32 1 &&& Int32.toUInt32 31)).toInt32) &&& 1431655765)) &&& 858993459) + (((Int32.toUInt32 (a0 - (((Int32.toUInt32 a0 >>> (Int32.toUInt32 1 &&& Int32.toUInt32 31)).toInt32) &&& 1431655765)) >>> (Int32.toUInt32 2 &&& Int32.toUInt32 31)).toInt32) &&& 858993459)) >>> (Int32.toUInt32 4 &&& Int32.toUInt32 31)).toInt32)) &&& 252645135) >>> (Int32.toUInt32 8 &&& Int32.toUInt32 31)).toInt32)))] k155_40 rfl (by decide) rfl ?_
  refine q_iload_n (pc := 41) k155_41 rfl ?_
  refine q_iload_n (pc := 42) k155_42 rfl ?_
  refine q_bipush (pc := 43) (v := 16) k155_43 (by decide) ?_
  refine q_iushr (pc := 45) k155_45 ?_
  refine q_iadd (pc := 46) k155_46 ?_
  refine q_istore_n (pc := 47) [some (.int (((((((a0 - (((Int32.toUInt32 a0 >>> (Int32.toUInt32 1 &&& Int32.toUInt32 31)).toInt32) &&& 1431655765)) &&& 858993459) + (((Int32.toUInt32 (a0 - (((Int32.toUInt32 a0 >>> (Int32.toUInt32 1 &&& Int32.toUInt32 31)).toInt32) &&& 1431655765)) >>> (Int32.toUInt32 2 &&& Int32.toUInt32 31)).toInt32) &&& 858993459)) + ((Int32.toUInt32 (((a0 - (((Int32.toUInt32 a0 >>> (Int32.toUInt32 1 &&& Int32.toUInt32 31)).toInt32) &&& 1431655765)) &&& 858993459) + (((Int32.toUInt32 (a0 - (((Int32.toUInt32 a0 >>> (Int32.toUInt32 1 &&& Int32.toUInt32 31)).toInt32) &&& 1431655765)) >>> (Int32.toUInt32 2 &&& Int32.toUInt32 31)).toInt32) &&& 858993459)) >>> (Int32.toUInt32 4 &&& Int32.toUInt32 31)).toInt32)) &&& 252645135) + ((Int32.toUInt32 (((((a0 - (((Int32.toUInt32 a0 >>> (Int32.toUInt32 1 &&& Int32.toUInt32 31)).toInt32) &&& 1431655765)) &&& 858993459) + (((Int32.toUInt32 (a0 - (((Int32.toUInt32 a0 >>> (Int32.toUInt32 1 &&& Int32.toUInt32 31)).toInt32) &&& 1431655765)) >>> (Int32.toUInt32 2 &&& Int32.toUInt32 31)).toInt32) &&& 858993459)) + ((Int32.toUInt32 (((a0 - (((Int32.toUInt32 a0 >>> (Int32.toUInt32 1 &&& Int32.toUInt32 31)).toInt32) &&& 1431655765)) &&& 858993459) + (((Int32.toUInt32 (a0 - (((Int32.toUInt32 a0 >>> (Int32.toUInt32 1 &&& Int32.toUInt32 31)).toInt32) &&& 1431655765)) >>> (Int32.toUInt32 2 &&& Int32.toUInt32 31)).toInt32) &&& 858993459)) >>> (Int32.toUInt32 4 &&& Int32.toUInt32 31)).toInt32)) &&& 252645135) >>> (Int32.toUInt32 8 &&& Int32.toUInt32 31)).toInt32)) + ((Int32.toUInt32 ((((((a0 - (((Int32.toUInt32 a0 >>> (Int32.toUInt32 1 &&& Int32.toUInt32 31)).toInt32) &&& 1431655765)) &&& 858993459) + (((Int32.toUInt32 (a0 - (((Int32.toUInt32 a0 >>> (Int32.toUInt32 1 &&& Int32.toUInt32 31)).toInt32) &&& 1431655765)) >>> (Int32.toUInt32 2 &&& Int32.toUInt32 31)).toInt32) &&& 858993459)) + ((Int32.toUInt32 (((a0 - (((Int32.toUInt32 a0 >>> (Int32.toUInt32 1 &&& Int32.toUInt32 31)).toInt32) &&& 1431655765)) &&& 858993459) + (((Int32.toUInt32 (a0 - (((Int32.toUInt32 a0 >>> (Int32.toUInt32 1 &&& Int32.toUInt32 31)).toInt32) &&& 1431655765)) >>> (Int32.toUInt32 2 &&& Int32.toUInt32 31)).toInt32) &&& 858993459)) >>> (Int32.toUInt32 4 &&& Int32.toUInt32 31)).toInt32)) &&& 252645135) + ((Int32.toUInt32 (((((a0 - (((Int32.toUInt32 a0 >>> (Int32.toUInt32 1 &&& Int32.toUInt32 31)).toInt32) &&& 1431655765)) &&& 858993459) + (((Int32.toUInt32 (a0 - (((Int32.toUInt32 a0 >>> (Int32.toUInt32 1 &&& Int32.toUInt32 31)).toInt32) &&& 1431655765)) >>> (Int32.toUInt32 2 &&& Int32.toUInt32 31)).toInt32) &&& 858993459)) + ((Int32.toUInt32 (((a0 - (((Int32.toUInt32 a0 >>> (Int32.toUInt32 1 &&& Int32.toUInt32 31)).toInt32) &&& 1431655765)) &&& 858993459) + (((Int32.toUInt32 (a0 - (((Int32.toUInt32 a0 >>> (Int32.toUInt32 1 &&& Int32.toUInt32 31)).toInt32) &&& 1431655765)) >>> (Int32.toUInt32 2 &&& Int32.toUInt32 31)).toInt32) &&& 858993459)) >>> (Int32.toUInt32 4 &&& Int32.toUInt32 31)).toInt32)) &&& 252645135) >>> (Int32.toUInt32 8 &&& Int32.toUInt32 31)).toInt32)) >>> (Int32.toUInt32 16 &&& Int32.toUInt32 31)).toInt32)))] k155_47 rfl (by decide) rfl ?_
  refine q_iload_n (pc := 48) k155_48 rfl ?_
  refine q_bipush (pc := 49) (v := 63) k155_49 (by decide) ?_
  refine q_iand (pc := 51) k155_51 ?_
  exact q_ireturn (pc := 52) k155_52 rfl ⟨_, rfl, h⟩
set_option maxRecDepth 20000 in
theorem vc158 {X : Nat × (Nat → Int32)} {d : Nat} {M : q_M} {a1 : Int32} {ra na : Nat} (hr : q_lay[ra]? = some (.inr (.inl na))) {K : q_M → Prop} (h : q_Ex X d 158 5 [some (.ref ra), some (.int a1), some (.int 0), some (.int (Int32.ofNat na))] [] M (q_rn K)) : q_Cv X d 158 [.ref ra, .int a1] M K := by
  show q_Ex X d 158 0 [some (.ref ra), some (.int a1), none, none] [] M (q_rn K)
  refine q_iconst (pc := 0) (v := 0) k158_0 (by decide) ?_
  refine q_istore_n (pc := 1) [some (.ref ra), some (.int a1), some (.int 0), none] k158_1 rfl (by decide) rfl ?_
  refine q_aload_n (pc := 2) k158_2 rfl ?_
  refine q_alen (pc := 3) (v := Int32.ofNat na) k158_3 hr rfl ?_
  refine q_istore_n (pc := 4) [some (.ref ra), some (.int a1), some (.int 0), some (.int (Int32.ofNat na))] k158_4 rfl (by decide) rfl ?_
  exact h
set_option maxRecDepth 20000 in
theorem vc158_p5 {X : Nat × (Nat → Int32)} {d : Nat} {M : q_M} {a1 a2 a3 : Int32} {ra na : Nat} (hr : q_lay[ra]? = some (.inr (.inl na))) {K : q_M → Prop} (h : ((a3 ≤ a2) → (K M)) ∧ ((¬ a3 ≤ a2) → (vp_in a2 na ∧ (q_Ex X d 158 5 [some (.ref ra), some (.int a1), some (.int (a2 + 1)), some (.int a3)] [] (q_set M ra (Int32.toNatClampNeg a2) a1) (q_rn K))))) : q_Ex X d 158 5 [some (.ref ra), some (.int a1), some (.int a2), some (.int a3)] [] M (q_rn K) := by
  refine q_iload_n (pc := 5) k158_5 rfl ?_
  refine q_iload_n (pc := 6) k158_6 rfl ?_
  refine q_icmp_ge (pc := 7) 20 k158_7 (by decide) (fun g => ?_) (fun g => ?_)
  · replace h := h.1 g
    exact q_return (pc := 20) k158_20 rfl ⟨rfl, h⟩
  · replace h := h.2 g
    refine q_aload_n (pc := 10) k158_10 rfl ?_
    refine q_iload_n (pc := 11) k158_11 rfl ?_
    refine q_iload_n (pc := 12) k158_12 rfl ?_
    refine q_iastv (pc := 13) (k := (Int32.toNatClampNeg a2)) k158_13 hr h.1 rfl ?_
    replace h := h.2
    refine q_iinc (pc := 14) (v := a2 + 1) [some (.ref ra), some (.int a1), some (.int (a2 + 1)), some (.int a3)] k158_14 rfl rfl rfl (by decide) rfl ?_
    refine q_goto (pc := 17) 5 k158_17 (by decide) ?_
    exact h
set_option maxRecDepth 20000 in
theorem vcL_p18 {X : Nat × (Nat → Int32)} {d : Nat} (hd : 0 < d) {M : q_M} {a3 : Int32} {K : Int32 → q_M → Prop} (h : ((((Int32.ofNat X.1) - 4) < a3) → (K 1 M)) ∧ ((¬ ((Int32.ofNat X.1) - 4) < a3) → (vp_in a3 X.1 ∧ ((((X.2 (Int32.toNatClampNeg a3)) &&& 31) = 0 → (vp_in (a3 + 1) X.1 ∧ (q_Ci X (d - 1) 44 [.ref 0, .int (X.2 (Int32.toNatClampNeg (a3 + 1)))] M (fun r2 M1 => vp_in (a3 + 1) X.1 ∧ (q_Ci X (d - 1) 101 [.ref 97, .int (X.2 (Int32.toNatClampNeg (a3 + 1)))] M1 (fun r4 M3 => ((r2 = r4) → (q_Ex X d 159 18 [some (.ref 1003), some (.ref 0), some (.ref 97), some (.int (a3 + 4))] [] M3 (q_ri K))) ∧ ((¬ r2 = r4) → (K 0 M3)))))))) ∧ (((X.2 (Int32.toNatClampNeg a3)) &&& 31) = 1 → (q_Ci X (d - 1) 45 [.ref 0] M (fun r6 M5 => q_Ci X (d - 1) 104 [.ref 97] M5 (fun r8 M7 => ((r6 = r8) → (q_Ex X d 159 18 [some (.ref 1003), some (.ref 0), some (.ref 97), some (.int (a3 + 4))] [] M7 (q_ri K))) ∧ ((¬ r6 = r8) → (K 0 M7)))))) ∧ (((X.2 (Int32.toNatClampNeg a3)) &&& 31) = 2 → (vp_in (a3 + 1) X.1 ∧ (vp_in (a3 + 2) X.1 ∧ (q_Ci X (d - 1) 46 [.ref 0, .int (X.2 (Int32.toNatClampNeg (a3 + 1))), .int (X.2 (Int32.toNatClampNeg (a3 + 2)))] M (fun r10 M9 => vp_in (a3 + 1) X.1 ∧ (vp_in (a3 + 2) X.1 ∧ (q_Ci X (d - 1) 105 [.ref 97, .int (X.2 (Int32.toNatClampNeg (a3 + 1))), .int (X.2 (Int32.toNatClampNeg (a3 + 2)))] M9 (fun r12 M11 => ((r10 = r12) → (q_Ex X d 159 18 [some (.ref 1003), some (.ref 0), some (.ref 97), some (.int (a3 + 4))] [] M11 (q_ri K))) ∧ ((¬ r10 = r12) → (K 0 M11)))))))))) ∧ (((X.2 (Int32.toNatClampNeg a3)) &&& 31) = 3 → (vp_in (a3 + 1) X.1 ∧ (q_Ci X (d - 1) 47 [.ref 0, .int (X.2 (Int32.toNatClampNeg (a3 + 1)))] M (fun r14 M13 => vp_in (a3 + 1) X.1 ∧ (q_Ci X (d - 1) 106 [.ref 97, .int (X.2 (Int32.toNatClampNeg (a3 + 1)))] M13 (fun r16 M15 => ((r14 = r16) → (q_Ex X d 159 18 [some (.ref 1003), some (.ref 0), some (.ref 97), some (.int (a3 + 4))] [] M15 (q_ri K))) ∧ ((¬ r14 = r16) → (K 0 M15)))))))) ∧ (((X.2 (Int32.toNatClampNeg a3)) &&& 31) = 4 → (vp_in (a3 + 1) X.1 ∧ (q_Ci X (d - 1) 48 [.ref 0, .int (X.2 (Int32.toNatClampNeg (a3 + 1)))] M (fun r18 M17 => vp_in (a3 + 1) X.1 ∧ (q_Ci X (d - 1) 109 [.ref 97, .int (X.2 (Int32.toNatClampNeg (a3 + 1)))] M17 (fun r20 M19 => ((r18 = r20) → (q_Ex X d 159 18 [some (.ref 1003), some (.ref 0), some (.ref 97), some (.int (a3 + 4))] [] M19 (q_ri K))) ∧ ((¬ r18 = r20) → (K 0 M19)))))))) ∧ (((X.2 (Int32.toNatClampNeg a3)) &&& 31) = 5 → (vp_in (a3 + 1) X.1 ∧ (vp_in (a3 + 2) X.1 ∧ (q_Ci X (d - 1) 49 [.ref 0, .int (X.2 (Int32.toNatClampNeg (a3 + 1))), .int (X.2 (Int32.toNatClampNeg (a3 + 2)))] M (fun r22 M21 => vp_in (a3 + 1) X.1 ∧ (vp_in (a3 + 2) X.1 ∧ (q_Ci X (d - 1) 116 [.ref 97, .int (X.2 (Int32.toNatClampNeg (a3 + 1))), .int (X.2 (Int32.toNatClampNeg (a3 + 2)))] M21 (fun r24 M23 => ((r22 = r24) → (q_Ex X d 159 18 [some (.ref 1003), some (.ref 0), some (.ref 97), some (.int (a3 + 4))] [] M23 (q_ri K))) ∧ ((¬ r22 = r24) → (K 0 M23)))))))))) ∧ (((X.2 (Int32.toNatClampNeg a3)) &&& 31) = 6 → (q_Ci X (d - 1) 50 [.ref 0] M (fun r26 M25 => q_Ci X (d - 1) 126 [.ref 97] M25 (fun r28 M27 => ((r26 = r28) → (q_Ex X d 159 18 [some (.ref 1003), some (.ref 0), some (.ref 97), some (.int (a3 + 4))] [] M27 (q_ri K))) ∧ ((¬ r26 = r28) → (K 0 M27)))))) ∧ (((X.2 (Int32.toNatClampNeg a3)) &&& 31) = 7 → (q_Ci X (d - 1) 51 [.ref 0] M (fun r30 M29 => q_Ci X (d - 1) 128 [.ref 97] M29 (fun r32 M31 => ((r30 = r32) → (q_Ex X d 159 18 [some (.ref 1003), some (.ref 0), some (.ref 97), some (.int (a3 + 4))] [] M31 (q_ri K))) ∧ ((¬ r30 = r32) → (K 0 M31)))))) ∧ (((X.2 (Int32.toNatClampNeg a3)) &&& 31) = 8 → (q_Ci X (d - 1) 52 [.ref 0] M (fun r34 M33 => q_Ci X (d - 1) 129 [.ref 97] M33 (fun r36 M35 => ((r34 = r36) → (q_Ex X d 159 18 [some (.ref 1003), some (.ref 0), some (.ref 97), some (.int (a3 + 4))] [] M35 (q_ri K))) ∧ ((¬ r34 = r36) → (K 0 M35)))))) ∧ (((X.2 (Int32.toNatClampNeg a3)) &&& 31) = 9 → (vp_in (a3 + 1) X.1 ∧ (q_Ci X (d - 1) 53 [.ref 0, .int (X.2 (Int32.toNatClampNeg (a3 + 1)))] M (fun r38 M37 => vp_in (a3 + 1) X.1 ∧ (q_Ci X (d - 1) 130 [.ref 97, .int (X.2 (Int32.toNatClampNeg (a3 + 1)))] M37 (fun r40 M39 => ((r38 = r40) → (q_Ex X d 159 18 [some (.ref 1003), some (.ref 0), some (.ref 97), some (.int (a3 + 4))] [] M39 (q_ri K))) ∧ ((¬ r38 = r40) → (K 0 M39)))))))) ∧ (((X.2 (Int32.toNatClampNeg a3)) &&& 31) = 10 → (q_Ci X (d - 1) 54 [.ref 0] M (fun r42 M41 => q_Ci X (d - 1) 131 [.ref 97] M41 (fun r44 M43 => ((r42 = r44) → (q_Ex X d 159 18 [some (.ref 1003), some (.ref 0), some (.ref 97), some (.int (a3 + 4))] [] M43 (q_ri K))) ∧ ((¬ r42 = r44) → (K 0 M43)))))) ∧ (((X.2 (Int32.toNatClampNeg a3)) &&& 31) = 11 → (vp_in (a3 + 1) X.1 ∧ (vp_in (a3 + 2) X.1 ∧ (q_Ci X (d - 1) 55 [.ref 0, .int (X.2 (Int32.toNatClampNeg (a3 + 1))), .int (X.2 (Int32.toNatClampNeg (a3 + 2)))] M (fun r46 M45 => vp_in (a3 + 1) X.1 ∧ (vp_in (a3 + 2) X.1 ∧ (q_Ci X (d - 1) 133 [.ref 97, .int (X.2 (Int32.toNatClampNeg (a3 + 1))), .int (X.2 (Int32.toNatClampNeg (a3 + 2)))] M45 (fun r48 M47 => ((r46 = r48) → (q_Ex X d 159 18 [some (.ref 1003), some (.ref 0), some (.ref 97), some (.int (a3 + 4))] [] M47 (q_ri K))) ∧ ((¬ r46 = r48) → (K 0 M47)))))))))) ∧ (((X.2 (Int32.toNatClampNeg a3)) &&& 31) = 12 → (vp_in (a3 + 1) X.1 ∧ (vp_in (a3 + 2) X.1 ∧ (vp_in (a3 + 3) X.1 ∧ (q_Ci X (d - 1) 56 [.ref 0, .int (X.2 (Int32.toNatClampNeg (a3 + 1))), .int (X.2 (Int32.toNatClampNeg (a3 + 2))), .int (X.2 (Int32.toNatClampNeg (a3 + 3)))] M (fun r50 M49 => vp_in (a3 + 1) X.1 ∧ (vp_in (a3 + 2) X.1 ∧ (vp_in (a3 + 3) X.1 ∧ (q_Ci X (d - 1) 135 [.ref 97, .int (X.2 (Int32.toNatClampNeg (a3 + 1))), .int (X.2 (Int32.toNatClampNeg (a3 + 2))), .int (X.2 (Int32.toNatClampNeg (a3 + 3)))] M49 (fun r52 M51 => ((r50 = r52) → (q_Ex X d 159 18 [some (.ref 1003), some (.ref 0), some (.ref 97), some (.int (a3 + 4))] [] M51 (q_ri K))) ∧ ((¬ r50 = r52) → (K 0 M51)))))))))))) ∧ (((X.2 (Int32.toNatClampNeg a3)) &&& 31) = 13 → (vp_in (a3 + 1) X.1 ∧ (vp_in (a3 + 2) X.1 ∧ (vp_in (a3 + 3) X.1 ∧ (q_Ci X (d - 1) 57 [.ref 0, .int (X.2 (Int32.toNatClampNeg (a3 + 1))), .int (X.2 (Int32.toNatClampNeg (a3 + 2))), .int (X.2 (Int32.toNatClampNeg (a3 + 3)))] M (fun r54 M53 => vp_in (a3 + 1) X.1 ∧ (vp_in (a3 + 2) X.1 ∧ (vp_in (a3 + 3) X.1 ∧ (q_Ci X (d - 1) 136 [.ref 97, .int (X.2 (Int32.toNatClampNeg (a3 + 1))), .int (X.2 (Int32.toNatClampNeg (a3 + 2))), .int (X.2 (Int32.toNatClampNeg (a3 + 3)))] M53 (fun r56 M55 => ((r54 = r56) → (q_Ex X d 159 18 [some (.ref 1003), some (.ref 0), some (.ref 97), some (.int (a3 + 4))] [] M55 (q_ri K))) ∧ ((¬ r54 = r56) → (K 0 M55)))))))))))) ∧ (((X.2 (Int32.toNatClampNeg a3)) &&& 31) = 14 → (q_Ci X (d - 1) 58 [.ref 0] M (fun r58 M57 => q_Ci X (d - 1) 139 [.ref 97] M57 (fun r60 M59 => ((r58 = r60) → (q_Ex X d 159 18 [some (.ref 1003), some (.ref 0), some (.ref 97), some (.int (a3 + 4))] [] M59 (q_ri K))) ∧ ((¬ r58 = r60) → (K 0 M59)))))) ∧ (((X.2 (Int32.toNatClampNeg a3)) &&& 31) = 15 → (q_Ci X (d - 1) 59 [.ref 0] M (fun r62 M61 => q_Ci X (d - 1) 140 [.ref 97] M61 (fun r64 M63 => ((r62 = r64) → (q_Ex X d 159 18 [some (.ref 1003), some (.ref 0), some (.ref 97), some (.int (a3 + 4))] [] M63 (q_ri K))) ∧ ((¬ r62 = r64) → (K 0 M63)))))) ∧ (((X.2 (Int32.toNatClampNeg a3)) &&& 31) = 16 → (vp_in (a3 + 1) X.1 ∧ (q_Ci X (d - 1) 60 [.ref 0, .int (X.2 (Int32.toNatClampNeg (a3 + 1)))] M (fun r66 M65 => vp_in (a3 + 1) X.1 ∧ (q_Ci X (d - 1) 141 [.ref 97, .int (X.2 (Int32.toNatClampNeg (a3 + 1)))] M65 (fun r68 M67 => ((r66 = r68) → (q_Ex X d 159 18 [some (.ref 1003), some (.ref 0), some (.ref 97), some (.int (a3 + 4))] [] M67 (q_ri K))) ∧ ((¬ r66 = r68) → (K 0 M67)))))))) ∧ (((X.2 (Int32.toNatClampNeg a3)) &&& 31) = 17 → (q_Ci X (d - 1) 61 [.ref 0] M (fun r70 M69 => q_Ci X (d - 1) 142 [.ref 97] M69 (fun r72 M71 => ((r70 = r72) → (q_Ex X d 159 18 [some (.ref 1003), some (.ref 0), some (.ref 97), some (.int (a3 + 4))] [] M71 (q_ri K))) ∧ ((¬ r70 = r72) → (K 0 M71)))))) ∧ (((X.2 (Int32.toNatClampNeg a3)) &&& 31) = 18 → (vp_in (a3 + 1) X.1 ∧ (q_Ci X (d - 1) 62 [.ref 0, .int (X.2 (Int32.toNatClampNeg (a3 + 1)))] M (fun r74 M73 => vp_in (a3 + 1) X.1 ∧ (q_Ci X (d - 1) 143 [.ref 97, .int (X.2 (Int32.toNatClampNeg (a3 + 1)))] M73 (fun r76 M75 => ((r74 = r76) → (q_Ex X d 159 18 [some (.ref 1003), some (.ref 0), some (.ref 97), some (.int (a3 + 4))] [] M75 (q_ri K))) ∧ ((¬ r74 = r76) → (K 0 M75)))))))) ∧ (((X.2 (Int32.toNatClampNeg a3)) &&& 31) = 19 → (vp_in (a3 + 1) X.1 ∧ (q_Ci X (d - 1) 63 [.ref 0, .int (X.2 (Int32.toNatClampNeg (a3 + 1)))] M (fun r78 M77 => vp_in (a3 + 1) X.1 ∧ (q_Ci X (d - 1) 144 [.ref 97, .int (X.2 (Int32.toNatClampNeg (a3 + 1)))] M77 (fun r80 M79 => ((r78 = r80) → (q_Ex X d 159 18 [some (.ref 1003), some (.ref 0), some (.ref 97), some (.int (a3 + 4))] [] M79 (q_ri K))) ∧ ((¬ r78 = r80) → (K 0 M79)))))))) ∧ (((X.2 (Int32.toNatClampNeg a3)) &&& 31) = 20 → (q_Ci X (d - 1) 64 [.ref 0] M (fun r82 M81 => q_Ci X (d - 1) 145 [.ref 97] M81 (fun r84 M83 => ((r82 = r84) → (q_Ex X d 159 18 [some (.ref 1003), some (.ref 0), some (.ref 97), some (.int (a3 + 4))] [] M83 (q_ri K))) ∧ ((¬ r82 = r84) → (K 0 M83)))))) ∧ (((X.2 (Int32.toNatClampNeg a3)) &&& 31) = 21 → (vp_in (a3 + 1) X.1 ∧ (vp_in (a3 + 2) X.1 ∧ (vp_in (a3 + 3) X.1 ∧ (q_Ci X (d - 1) 65 [.ref 0, .int (X.2 (Int32.toNatClampNeg (a3 + 1))), .int (X.2 (Int32.toNatClampNeg (a3 + 2))), .int (X.2 (Int32.toNatClampNeg (a3 + 3)))] M (fun r86 M85 => vp_in (a3 + 1) X.1 ∧ (vp_in (a3 + 2) X.1 ∧ (vp_in (a3 + 3) X.1 ∧ (q_Ci X (d - 1) 147 [.ref 97, .int (X.2 (Int32.toNatClampNeg (a3 + 1))), .int (X.2 (Int32.toNatClampNeg (a3 + 2))), .int (X.2 (Int32.toNatClampNeg (a3 + 3)))] M85 (fun r88 M87 => ((r86 = r88) → (q_Ex X d 159 18 [some (.ref 1003), some (.ref 0), some (.ref 97), some (.int (a3 + 4))] [] M87 (q_ri K))) ∧ ((¬ r86 = r88) → (K 0 M87)))))))))))) ∧ (((X.2 (Int32.toNatClampNeg a3)) &&& 31) = 22 → (vp_in (a3 + 1) X.1 ∧ (vp_in (a3 + 2) X.1 ∧ (q_Ci X (d - 1) 66 [.ref 0, .int (X.2 (Int32.toNatClampNeg (a3 + 1))), .int (X.2 (Int32.toNatClampNeg (a3 + 2)))] M (fun r90 M89 => vp_in (a3 + 1) X.1 ∧ (vp_in (a3 + 2) X.1 ∧ (q_Ci X (d - 1) 148 [.ref 97, .int (X.2 (Int32.toNatClampNeg (a3 + 1))), .int (X.2 (Int32.toNatClampNeg (a3 + 2)))] M89 (fun r92 M91 => ((r90 = r92) → (q_Ex X d 159 18 [some (.ref 1003), some (.ref 0), some (.ref 97), some (.int (a3 + 4))] [] M91 (q_ri K))) ∧ ((¬ r90 = r92) → (K 0 M91)))))))))) ∧ (((X.2 (Int32.toNatClampNeg a3)) &&& 31) = 23 → (q_Ci X (d - 1) 67 [.ref 0] M (fun r94 M93 => q_Ci X (d - 1) 150 [.ref 97] M93 (fun r96 M95 => ((r94 = r96) → (q_Ex X d 159 18 [some (.ref 1003), some (.ref 0), some (.ref 97), some (.int (a3 + 4))] [] M95 (q_ri K))) ∧ ((¬ r94 = r96) → (K 0 M95)))))) ∧ (((X.2 (Int32.toNatClampNeg a3)) &&& 31) = 24 → (q_Ci X (d - 1) 68 [.ref 0] M (fun r98 M97 => q_Ci X (d - 1) 151 [.ref 97] M97 (fun r100 M99 => ((r98 = r100) → (q_Ex X d 159 18 [some (.ref 1003), some (.ref 0), some (.ref 97), some (.int (a3 + 4))] [] M99 (q_ri K))) ∧ ((¬ r98 = r100) → (K 0 M99)))))) ∧ (((X.2 (Int32.toNatClampNeg a3)) &&& 31) = 25 → (q_Ci X (d - 1) 69 [.ref 0] M (fun r102 M101 => q_Ci X (d - 1) 152 [.ref 97] M101 (fun r104 M103 => ((r102 = r104) → (q_Ex X d 159 18 [some (.ref 1003), some (.ref 0), some (.ref 97), some (.int (a3 + 4))] [] M103 (q_ri K))) ∧ ((¬ r102 = r104) → (K 0 M103)))))) ∧ (((X.2 (Int32.toNatClampNeg a3)) &&& 31) = 26 → (q_Ci X (d - 1) 70 [.ref 0] M (fun r106 M105 => q_Ci X (d - 1) 153 [.ref 97] M105 (fun r108 M107 => ((r106 = r108) → (q_Ex X d 159 18 [some (.ref 1003), some (.ref 0), some (.ref 97), some (.int (a3 + 4))] [] M107 (q_ri K))) ∧ ((¬ r106 = r108) → (K 0 M107)))))) ∧ (((X.2 (Int32.toNatClampNeg a3)) &&& 31) = 27 → (vp_in (a3 + 1) X.1 ∧ (q_Ci X (d - 1) 71 [.ref 0, .int (X.2 (Int32.toNatClampNeg (a3 + 1)))] M (fun r110 M109 => vp_in (a3 + 1) X.1 ∧ (q_Ci X (d - 1) 154 [.ref 97, .int (X.2 (Int32.toNatClampNeg (a3 + 1)))] M109 (fun r112 M111 => ((r110 = r112) → (q_Ex X d 159 18 [some (.ref 1003), some (.ref 0), some (.ref 97), some (.int (a3 + 4))] [] M111 (q_ri K))) ∧ ((¬ r110 = r112) → (K 0 M111)))))))) ∧ ((¬ ((X.2 (Int32.toNatClampNeg a3)) &&& 31) = 0 ∧ ¬ ((X.2 (Int32.toNatClampNeg a3)) &&& 31) = 1 ∧ ¬ ((X.2 (Int32.toNatClampNeg a3)) &&& 31) = 2 ∧ ¬ ((X.2 (Int32.toNatClampNeg a3)) &&& 31) = 3 ∧ ¬ ((X.2 (Int32.toNatClampNeg a3)) &&& 31) = 4 ∧ ¬ ((X.2 (Int32.toNatClampNeg a3)) &&& 31) = 5 ∧ ¬ ((X.2 (Int32.toNatClampNeg a3)) &&& 31) = 6 ∧ ¬ ((X.2 (Int32.toNatClampNeg a3)) &&& 31) = 7 ∧ ¬ ((X.2 (Int32.toNatClampNeg a3)) &&& 31) = 8 ∧ ¬ ((X.2 (Int32.toNatClampNeg a3)) &&& 31) = 9 ∧ ¬ ((X.2 (Int32.toNatClampNeg a3)) &&& 31) = 10 ∧ ¬ ((X.2 (Int32.toNatClampNeg a3)) &&& 31) = 11 ∧ ¬ ((X.2 (Int32.toNatClampNeg a3)) &&& 31) = 12 ∧ ¬ ((X.2 (Int32.toNatClampNeg a3)) &&& 31) = 13 ∧ ¬ ((X.2 (Int32.toNatClampNeg a3)) &&& 31) = 14 ∧ ¬ ((X.2 (Int32.toNatClampNeg a3)) &&& 31) = 15 ∧ ¬ ((X.2 (Int32.toNatClampNeg a3)) &&& 31) = 16 ∧ ¬ ((X.2 (Int32.toNatClampNeg a3)) &&& 31) = 17 ∧ ¬ ((X.2 (Int32.toNatClampNeg a3)) &&& 31) = 18 ∧ ¬ ((X.2 (Int32.toNatClampNeg a3)) &&& 31) = 19 ∧ ¬ ((X.2 (Int32.toNatClampNeg a3)) &&& 31) = 20 ∧ ¬ ((X.2 (Int32.toNatClampNeg a3)) &&& 31) = 21 ∧ ¬ ((X.2 (Int32.toNatClampNeg a3)) &&& 31) = 22 ∧ ¬ ((X.2 (Int32.toNatClampNeg a3)) &&& 31) = 23 ∧ ¬ ((X.2 (Int32.toNatClampNeg a3)) &&& 31) = 24 ∧ ¬ ((X.2 (Int32.toNatClampNeg a3)) &&& 31) = 25 ∧ ¬ ((X.2 (Int32.toNatClampNeg a3)) &&& 31) = 26 ∧ ¬ ((X.2 (Int32.toNatClampNeg a3)) &&& 31) = 27) → (q_Ex X d 159 18 [some (.ref 1003), some (.ref 0), some (.ref 97), some (.int (a3 + 4))] [] M (q_ri K))))))) : q_Ex X d 159 18 [some (.ref 1003), some (.ref 0), some (.ref 97), some (.int a3)] [] M (q_ri K) := by
  refine q_iload_n (pc := 18) k159_18 rfl ?_
  refine q_aload_n (pc := 19) k159_19 rfl ?_
  refine q_rlen (pc := 20) (j := 3) (v := Int32.ofNat X.1) k159_20 (by decide) rfl ?_
  refine q_iconst (pc := 21) (v := 4) k159_21 (by decide) ?_
  refine q_isub (pc := 22) k159_22 ?_
  refine q_icmp_gt (pc := 23) 780 k159_23 (by decide) (fun g => ?_) (fun g => ?_)
  · replace h := h.1 g
    refine q_iconst (pc := 780) (v := 1) k159_780 (by decide) ?_
    exact q_zreturn (pc := 781) k159_781 rfl (by decide) ⟨_, rfl, h⟩
  · replace h := h.2 g
    refine q_aload_n (pc := 26) k159_26 rfl ?_
    refine q_iload_n (pc := 27) k159_27 rfl ?_
    refine q_raldv (pc := 28) (j := 3) (v := X.2 (Int32.toNatClampNeg a3)) k159_28 (by decide) h.1 rfl ?_
    replace h := h.2
    refine q_bipush (pc := 29) (v := 31) k159_29 (by decide) ?_
    refine q_iand (pc := 31) k159_31 ?_
    obtain ⟨e0, e1, e2, e3, e4, e5, e6, e7, e8, e9, e10, e11, e12, e13, e14, e15, e16, e17, e18, e19, e20, e21, e22, e23, e24, e25, e26, e27, e999⟩ := h
    by_cases g0 : ((X.2 (Int32.toNatClampNeg a3)) &&& 31) = 0
    · have h := e0 g0
      refine q_tsIn (pc := 32) 160 k159_32 (off := 128) (by rw [g0]; decide) (by rw [g0]; decide) (by rw [g0]; rfl) (by decide) ?_
      refine q_aload_n (pc := 160) k159_160 rfl ?_
      refine q_aload_n (pc := 161) k159_161 rfl ?_
      refine q_iload_n (pc := 162) k159_162 rfl ?_
      refine q_iconst (pc := 163) (v := 1) k159_163 (by decide) ?_
      refine q_iadd (pc := 164) k159_164 ?_
      refine q_raldv (pc := 165) (j := 3) (v := X.2 (Int32.toNatClampNeg (a3 + 1))) k159_165 (by decide) h.1 rfl ?_
      replace h := h.2
      refine q_invV (pc := 166) (As := [.int (X.2 (Int32.toNatClampNeg (a3 + 1)))]) (st := []) k159_166 lm159_13 ov44 rfl rfl rfl (q_cat rfl) (Nat.le_of_ble_eq_true rfl) hd h ?_
      rintro v M1 ⟨r2, rfl, h⟩
      show q_Ex X d 159 (166 + 3) [some (.ref 1003), some (.ref 0), some (.ref 97), some (.int a3)] [.int r2] M1 _
      refine q_aload_n (pc := 169) k159_169 rfl ?_
      refine q_aload_n (pc := 170) k159_170 rfl ?_
      refine q_iload_n (pc := 171) k159_171 rfl ?_
      refine q_iconst (pc := 172) (v := 1) k159_172 (by decide) ?_
      refine q_iadd (pc := 173) k159_173 ?_
      refine q_raldv (pc := 174) (j := 3) (v := X.2 (Int32.toNatClampNeg (a3 + 1))) k159_174 (by decide) h.1 rfl ?_
      replace h := h.2
      refine q_invV (pc := 175) (As := [.int (X.2 (Int32.toNatClampNeg (a3 + 1)))]) (st := [.int r2]) k159_175 lm159_17 ov101 rfl rfl rfl (q_cat rfl) (Nat.le_of_ble_eq_true rfl) hd h ?_
      rintro v M3 ⟨r4, rfl, h⟩
      show q_Ex X d 159 (175 + 3) [some (.ref 1003), some (.ref 0), some (.ref 97), some (.int a3)] [.int r4, .int r2] M3 _
      refine q_icmp_eq (pc := 178) 774 k159_178 (by decide) (fun g => ?_) (fun g => ?_)
      · replace h := h.1 g
        refine q_iinc (pc := 774) (v := a3 + 4) [some (.ref 1003), some (.ref 0), some (.ref 97), some (.int (a3 + 4))] k159_774 rfl rfl rfl (by decide) rfl ?_
        refine q_goto (pc := 777) 18 k159_777 (by decide) ?_
        exact h
      · replace h := h.2 g
        refine q_iconst (pc := 181) (v := 0) k159_181 (by decide) ?_
        exact q_zreturn (pc := 182) k159_182 rfl (by decide) ⟨_, rfl, h⟩
    by_cases g1 : ((X.2 (Int32.toNatClampNeg a3)) &&& 31) = 1
    · have h := e1 g1
      refine q_tsIn (pc := 32) 183 k159_32 (off := 151) (by rw [g1]; decide) (by rw [g1]; decide) (by rw [g1]; rfl) (by decide) ?_
      refine q_aload_n (pc := 183) k159_183 rfl ?_
      refine q_invV (pc := 184) (As := []) (st := []) k159_184 lm159_18 ov45 rfl rfl rfl (q_cat rfl) (Nat.le_of_ble_eq_true rfl) hd h ?_
      rintro v M5 ⟨r6, rfl, h⟩
      show q_Ex X d 159 (184 + 3) [some (.ref 1003), some (.ref 0), some (.ref 97), some (.int a3)] [.int r6] M5 _
      refine q_aload_n (pc := 187) k159_187 rfl ?_
      refine q_invV (pc := 188) (As := []) (st := [.int r6]) k159_188 lm159_22 ov104 rfl rfl rfl (q_cat rfl) (Nat.le_of_ble_eq_true rfl) hd h ?_
      rintro v M7 ⟨r8, rfl, h⟩
      show q_Ex X d 159 (188 + 3) [some (.ref 1003), some (.ref 0), some (.ref 97), some (.int a3)] [.int r8, .int r6] M7 _
      refine q_icmp_eq (pc := 191) 774 k159_191 (by decide) (fun g => ?_) (fun g => ?_)
      · replace h := h.1 g
        refine q_iinc (pc := 774) (v := a3 + 4) [some (.ref 1003), some (.ref 0), some (.ref 97), some (.int (a3 + 4))] k159_774 rfl rfl rfl (by decide) rfl ?_
        refine q_goto (pc := 777) 18 k159_777 (by decide) ?_
        exact h
      · replace h := h.2 g
        refine q_iconst (pc := 194) (v := 0) k159_194 (by decide) ?_
        exact q_zreturn (pc := 195) k159_195 rfl (by decide) ⟨_, rfl, h⟩
    by_cases g2 : ((X.2 (Int32.toNatClampNeg a3)) &&& 31) = 2
    · have h := e2 g2
      refine q_tsIn (pc := 32) 196 k159_32 (off := 164) (by rw [g2]; decide) (by rw [g2]; decide) (by rw [g2]; rfl) (by decide) ?_
      refine q_aload_n (pc := 196) k159_196 rfl ?_
      refine q_aload_n (pc := 197) k159_197 rfl ?_
      refine q_iload_n (pc := 198) k159_198 rfl ?_
      refine q_iconst (pc := 199) (v := 1) k159_199 (by decide) ?_
      refine q_iadd (pc := 200) k159_200 ?_
      refine q_raldv (pc := 201) (j := 3) (v := X.2 (Int32.toNatClampNeg (a3 + 1))) k159_201 (by decide) h.1 rfl ?_
      replace h := h.2
      refine q_aload_n (pc := 202) k159_202 rfl ?_
      refine q_iload_n (pc := 203) k159_203 rfl ?_
      refine q_iconst (pc := 204) (v := 2) k159_204 (by decide) ?_
      refine q_iadd (pc := 205) k159_205 ?_
      refine q_raldv (pc := 206) (j := 3) (v := X.2 (Int32.toNatClampNeg (a3 + 2))) k159_206 (by decide) h.1 rfl ?_
      replace h := h.2
      refine q_invV (pc := 207) (As := [.int (X.2 (Int32.toNatClampNeg (a3 + 1))), .int (X.2 (Int32.toNatClampNeg (a3 + 2)))]) (st := []) k159_207 lm159_23 ov46 rfl rfl rfl (q_cat rfl) (Nat.le_of_ble_eq_true rfl) hd h ?_
      rintro v M9 ⟨r10, rfl, h⟩
      show q_Ex X d 159 (207 + 3) [some (.ref 1003), some (.ref 0), some (.ref 97), some (.int a3)] [.int r10] M9 _
      refine q_aload_n (pc := 210) k159_210 rfl ?_
      refine q_aload_n (pc := 211) k159_211 rfl ?_
      refine q_iload_n (pc := 212) k159_212 rfl ?_
      refine q_iconst (pc := 213) (v := 1) k159_213 (by decide) ?_
      refine q_iadd (pc := 214) k159_214 ?_
      refine q_raldv (pc := 215) (j := 3) (v := X.2 (Int32.toNatClampNeg (a3 + 1))) k159_215 (by decide) h.1 rfl ?_
      replace h := h.2
      refine q_aload_n (pc := 216) k159_216 rfl ?_
      refine q_iload_n (pc := 217) k159_217 rfl ?_
      refine q_iconst (pc := 218) (v := 2) k159_218 (by decide) ?_
      refine q_iadd (pc := 219) k159_219 ?_
      refine q_raldv (pc := 220) (j := 3) (v := X.2 (Int32.toNatClampNeg (a3 + 2))) k159_220 (by decide) h.1 rfl ?_
      replace h := h.2
      refine q_invV (pc := 221) (As := [.int (X.2 (Int32.toNatClampNeg (a3 + 1))), .int (X.2 (Int32.toNatClampNeg (a3 + 2)))]) (st := [.int r10]) k159_221 lm159_27 ov105 rfl rfl rfl (q_cat rfl) (Nat.le_of_ble_eq_true rfl) hd h ?_
      rintro v M11 ⟨r12, rfl, h⟩
      show q_Ex X d 159 (221 + 3) [some (.ref 1003), some (.ref 0), some (.ref 97), some (.int a3)] [.int r12, .int r10] M11 _
      refine q_icmp_eq (pc := 224) 774 k159_224 (by decide) (fun g => ?_) (fun g => ?_)
      · replace h := h.1 g
        refine q_iinc (pc := 774) (v := a3 + 4) [some (.ref 1003), some (.ref 0), some (.ref 97), some (.int (a3 + 4))] k159_774 rfl rfl rfl (by decide) rfl ?_
        refine q_goto (pc := 777) 18 k159_777 (by decide) ?_
        exact h
      · replace h := h.2 g
        refine q_iconst (pc := 227) (v := 0) k159_227 (by decide) ?_
        exact q_zreturn (pc := 228) k159_228 rfl (by decide) ⟨_, rfl, h⟩
    by_cases g3 : ((X.2 (Int32.toNatClampNeg a3)) &&& 31) = 3
    · have h := e3 g3
      refine q_tsIn (pc := 32) 229 k159_32 (off := 197) (by rw [g3]; decide) (by rw [g3]; decide) (by rw [g3]; rfl) (by decide) ?_
      refine q_aload_n (pc := 229) k159_229 rfl ?_
      refine q_aload_n (pc := 230) k159_230 rfl ?_
      refine q_iload_n (pc := 231) k159_231 rfl ?_
      refine q_iconst (pc := 232) (v := 1) k159_232 (by decide) ?_
      refine q_iadd (pc := 233) k159_233 ?_
      refine q_raldv (pc := 234) (j := 3) (v := X.2 (Int32.toNatClampNeg (a3 + 1))) k159_234 (by decide) h.1 rfl ?_
      replace h := h.2
      refine q_invV (pc := 235) (As := [.int (X.2 (Int32.toNatClampNeg (a3 + 1)))]) (st := []) k159_235 lm159_28 ov47 rfl rfl rfl (q_cat rfl) (Nat.le_of_ble_eq_true rfl) hd h ?_
      rintro v M13 ⟨r14, rfl, h⟩
      show q_Ex X d 159 (235 + 3) [some (.ref 1003), some (.ref 0), some (.ref 97), some (.int a3)] [.int r14] M13 _
      refine q_aload_n (pc := 238) k159_238 rfl ?_
      refine q_aload_n (pc := 239) k159_239 rfl ?_
      refine q_iload_n (pc := 240) k159_240 rfl ?_
      refine q_iconst (pc := 241) (v := 1) k159_241 (by decide) ?_
      refine q_iadd (pc := 242) k159_242 ?_
      refine q_raldv (pc := 243) (j := 3) (v := X.2 (Int32.toNatClampNeg (a3 + 1))) k159_243 (by decide) h.1 rfl ?_
      replace h := h.2
      refine q_invV (pc := 244) (As := [.int (X.2 (Int32.toNatClampNeg (a3 + 1)))]) (st := [.int r14]) k159_244 lm159_31 ov106 rfl rfl rfl (q_cat rfl) (Nat.le_of_ble_eq_true rfl) hd h ?_
      rintro v M15 ⟨r16, rfl, h⟩
      show q_Ex X d 159 (244 + 3) [some (.ref 1003), some (.ref 0), some (.ref 97), some (.int a3)] [.int r16, .int r14] M15 _
      refine q_icmp_eq (pc := 247) 774 k159_247 (by decide) (fun g => ?_) (fun g => ?_)
      · replace h := h.1 g
        refine q_iinc (pc := 774) (v := a3 + 4) [some (.ref 1003), some (.ref 0), some (.ref 97), some (.int (a3 + 4))] k159_774 rfl rfl rfl (by decide) rfl ?_
        refine q_goto (pc := 777) 18 k159_777 (by decide) ?_
        exact h
      · replace h := h.2 g
        refine q_iconst (pc := 250) (v := 0) k159_250 (by decide) ?_
        exact q_zreturn (pc := 251) k159_251 rfl (by decide) ⟨_, rfl, h⟩
    by_cases g4 : ((X.2 (Int32.toNatClampNeg a3)) &&& 31) = 4
    · have h := e4 g4
      refine q_tsIn (pc := 32) 252 k159_32 (off := 220) (by rw [g4]; decide) (by rw [g4]; decide) (by rw [g4]; rfl) (by decide) ?_
      refine q_aload_n (pc := 252) k159_252 rfl ?_
      refine q_aload_n (pc := 253) k159_253 rfl ?_
      refine q_iload_n (pc := 254) k159_254 rfl ?_
      refine q_iconst (pc := 255) (v := 1) k159_255 (by decide) ?_
      refine q_iadd (pc := 256) k159_256 ?_
      refine q_raldv (pc := 257) (j := 3) (v := X.2 (Int32.toNatClampNeg (a3 + 1))) k159_257 (by decide) h.1 rfl ?_
      replace h := h.2
      refine q_invV (pc := 258) (As := [.int (X.2 (Int32.toNatClampNeg (a3 + 1)))]) (st := []) k159_258 lm159_32 ov48 rfl rfl rfl (q_cat rfl) (Nat.le_of_ble_eq_true rfl) hd h ?_
      rintro v M17 ⟨r18, rfl, h⟩
      show q_Ex X d 159 (258 + 3) [some (.ref 1003), some (.ref 0), some (.ref 97), some (.int a3)] [.int r18] M17 _
      refine q_aload_n (pc := 261) k159_261 rfl ?_
      refine q_aload_n (pc := 262) k159_262 rfl ?_
      refine q_iload_n (pc := 263) k159_263 rfl ?_
      refine q_iconst (pc := 264) (v := 1) k159_264 (by decide) ?_
      refine q_iadd (pc := 265) k159_265 ?_
      refine q_raldv (pc := 266) (j := 3) (v := X.2 (Int32.toNatClampNeg (a3 + 1))) k159_266 (by decide) h.1 rfl ?_
      replace h := h.2
      refine q_invV (pc := 267) (As := [.int (X.2 (Int32.toNatClampNeg (a3 + 1)))]) (st := [.int r18]) k159_267 lm159_35 ov109 rfl rfl rfl (q_cat rfl) (Nat.le_of_ble_eq_true rfl) hd h ?_
      rintro v M19 ⟨r20, rfl, h⟩
      show q_Ex X d 159 (267 + 3) [some (.ref 1003), some (.ref 0), some (.ref 97), some (.int a3)] [.int r20, .int r18] M19 _
      refine q_icmp_eq (pc := 270) 774 k159_270 (by decide) (fun g => ?_) (fun g => ?_)
      · replace h := h.1 g
        refine q_iinc (pc := 774) (v := a3 + 4) [some (.ref 1003), some (.ref 0), some (.ref 97), some (.int (a3 + 4))] k159_774 rfl rfl rfl (by decide) rfl ?_
        refine q_goto (pc := 777) 18 k159_777 (by decide) ?_
        exact h
      · replace h := h.2 g
        refine q_iconst (pc := 273) (v := 0) k159_273 (by decide) ?_
        exact q_zreturn (pc := 274) k159_274 rfl (by decide) ⟨_, rfl, h⟩
    by_cases g5 : ((X.2 (Int32.toNatClampNeg a3)) &&& 31) = 5
    · have h := e5 g5
      refine q_tsIn (pc := 32) 275 k159_32 (off := 243) (by rw [g5]; decide) (by rw [g5]; decide) (by rw [g5]; rfl) (by decide) ?_
      refine q_aload_n (pc := 275) k159_275 rfl ?_
      refine q_aload_n (pc := 276) k159_276 rfl ?_
      refine q_iload_n (pc := 277) k159_277 rfl ?_
      refine q_iconst (pc := 278) (v := 1) k159_278 (by decide) ?_
      refine q_iadd (pc := 279) k159_279 ?_
      refine q_raldv (pc := 280) (j := 3) (v := X.2 (Int32.toNatClampNeg (a3 + 1))) k159_280 (by decide) h.1 rfl ?_
      replace h := h.2
      refine q_aload_n (pc := 281) k159_281 rfl ?_
      refine q_iload_n (pc := 282) k159_282 rfl ?_
      refine q_iconst (pc := 283) (v := 2) k159_283 (by decide) ?_
      refine q_iadd (pc := 284) k159_284 ?_
      refine q_raldv (pc := 285) (j := 3) (v := X.2 (Int32.toNatClampNeg (a3 + 2))) k159_285 (by decide) h.1 rfl ?_
      replace h := h.2
      refine q_invV (pc := 286) (As := [.int (X.2 (Int32.toNatClampNeg (a3 + 1))), .int (X.2 (Int32.toNatClampNeg (a3 + 2)))]) (st := []) k159_286 lm159_36 ov49 rfl rfl rfl (q_cat rfl) (Nat.le_of_ble_eq_true rfl) hd h ?_
      rintro v M21 ⟨r22, rfl, h⟩
      show q_Ex X d 159 (286 + 3) [some (.ref 1003), some (.ref 0), some (.ref 97), some (.int a3)] [.int r22] M21 _
      refine q_aload_n (pc := 289) k159_289 rfl ?_
      refine q_aload_n (pc := 290) k159_290 rfl ?_
      refine q_iload_n (pc := 291) k159_291 rfl ?_
      refine q_iconst (pc := 292) (v := 1) k159_292 (by decide) ?_
      refine q_iadd (pc := 293) k159_293 ?_
      refine q_raldv (pc := 294) (j := 3) (v := X.2 (Int32.toNatClampNeg (a3 + 1))) k159_294 (by decide) h.1 rfl ?_
      replace h := h.2
      refine q_aload_n (pc := 295) k159_295 rfl ?_
      refine q_iload_n (pc := 296) k159_296 rfl ?_
      refine q_iconst (pc := 297) (v := 2) k159_297 (by decide) ?_
      refine q_iadd (pc := 298) k159_298 ?_
      refine q_raldv (pc := 299) (j := 3) (v := X.2 (Int32.toNatClampNeg (a3 + 2))) k159_299 (by decide) h.1 rfl ?_
      replace h := h.2
      refine q_invV (pc := 300) (As := [.int (X.2 (Int32.toNatClampNeg (a3 + 1))), .int (X.2 (Int32.toNatClampNeg (a3 + 2)))]) (st := [.int r22]) k159_300 lm159_39 ov116 rfl rfl rfl (q_cat rfl) (Nat.le_of_ble_eq_true rfl) hd h ?_
      rintro v M23 ⟨r24, rfl, h⟩
      show q_Ex X d 159 (300 + 3) [some (.ref 1003), some (.ref 0), some (.ref 97), some (.int a3)] [.int r24, .int r22] M23 _
      refine q_icmp_eq (pc := 303) 774 k159_303 (by decide) (fun g => ?_) (fun g => ?_)
      · replace h := h.1 g
        refine q_iinc (pc := 774) (v := a3 + 4) [some (.ref 1003), some (.ref 0), some (.ref 97), some (.int (a3 + 4))] k159_774 rfl rfl rfl (by decide) rfl ?_
        refine q_goto (pc := 777) 18 k159_777 (by decide) ?_
        exact h
      · replace h := h.2 g
        refine q_iconst (pc := 306) (v := 0) k159_306 (by decide) ?_
        exact q_zreturn (pc := 307) k159_307 rfl (by decide) ⟨_, rfl, h⟩
    by_cases g6 : ((X.2 (Int32.toNatClampNeg a3)) &&& 31) = 6
    · have h := e6 g6
      refine q_tsIn (pc := 32) 308 k159_32 (off := 276) (by rw [g6]; decide) (by rw [g6]; decide) (by rw [g6]; rfl) (by decide) ?_
      refine q_aload_n (pc := 308) k159_308 rfl ?_
      refine q_invV (pc := 309) (As := []) (st := []) k159_309 lm159_40 ov50 rfl rfl rfl (q_cat rfl) (Nat.le_of_ble_eq_true rfl) hd h ?_
      rintro v M25 ⟨r26, rfl, h⟩
      show q_Ex X d 159 (309 + 3) [some (.ref 1003), some (.ref 0), some (.ref 97), some (.int a3)] [.int r26] M25 _
      refine q_aload_n (pc := 312) k159_312 rfl ?_
      refine q_invV (pc := 313) (As := []) (st := [.int r26]) k159_313 lm159_43 ov126 rfl rfl rfl (q_cat rfl) (Nat.le_of_ble_eq_true rfl) hd h ?_
      rintro v M27 ⟨r28, rfl, h⟩
      show q_Ex X d 159 (313 + 3) [some (.ref 1003), some (.ref 0), some (.ref 97), some (.int a3)] [.int r28, .int r26] M27 _
      refine q_icmp_eq (pc := 316) 774 k159_316 (by decide) (fun g => ?_) (fun g => ?_)
      · replace h := h.1 g
        refine q_iinc (pc := 774) (v := a3 + 4) [some (.ref 1003), some (.ref 0), some (.ref 97), some (.int (a3 + 4))] k159_774 rfl rfl rfl (by decide) rfl ?_
        refine q_goto (pc := 777) 18 k159_777 (by decide) ?_
        exact h
      · replace h := h.2 g
        refine q_iconst (pc := 319) (v := 0) k159_319 (by decide) ?_
        exact q_zreturn (pc := 320) k159_320 rfl (by decide) ⟨_, rfl, h⟩
    by_cases g7 : ((X.2 (Int32.toNatClampNeg a3)) &&& 31) = 7
    · have h := e7 g7
      refine q_tsIn (pc := 32) 321 k159_32 (off := 289) (by rw [g7]; decide) (by rw [g7]; decide) (by rw [g7]; rfl) (by decide) ?_
      refine q_aload_n (pc := 321) k159_321 rfl ?_
      refine q_invV (pc := 322) (As := []) (st := []) k159_322 lm159_44 ov51 rfl rfl rfl (q_cat rfl) (Nat.le_of_ble_eq_true rfl) hd h ?_
      rintro v M29 ⟨r30, rfl, h⟩
      show q_Ex X d 159 (322 + 3) [some (.ref 1003), some (.ref 0), some (.ref 97), some (.int a3)] [.int r30] M29 _
      refine q_aload_n (pc := 325) k159_325 rfl ?_
      refine q_invV (pc := 326) (As := []) (st := [.int r30]) k159_326 lm159_47 ov128 rfl rfl rfl (q_cat rfl) (Nat.le_of_ble_eq_true rfl) hd h ?_
      rintro v M31 ⟨r32, rfl, h⟩
      show q_Ex X d 159 (326 + 3) [some (.ref 1003), some (.ref 0), some (.ref 97), some (.int a3)] [.int r32, .int r30] M31 _
      refine q_icmp_eq (pc := 329) 774 k159_329 (by decide) (fun g => ?_) (fun g => ?_)
      · replace h := h.1 g
        refine q_iinc (pc := 774) (v := a3 + 4) [some (.ref 1003), some (.ref 0), some (.ref 97), some (.int (a3 + 4))] k159_774 rfl rfl rfl (by decide) rfl ?_
        refine q_goto (pc := 777) 18 k159_777 (by decide) ?_
        exact h
      · replace h := h.2 g
        refine q_iconst (pc := 332) (v := 0) k159_332 (by decide) ?_
        exact q_zreturn (pc := 333) k159_333 rfl (by decide) ⟨_, rfl, h⟩
    by_cases g8 : ((X.2 (Int32.toNatClampNeg a3)) &&& 31) = 8
    · have h := e8 g8
      refine q_tsIn (pc := 32) 334 k159_32 (off := 302) (by rw [g8]; decide) (by rw [g8]; decide) (by rw [g8]; rfl) (by decide) ?_
      refine q_aload_n (pc := 334) k159_334 rfl ?_
      refine q_invV (pc := 335) (As := []) (st := []) k159_335 lm159_48 ov52 rfl rfl rfl (q_cat rfl) (Nat.le_of_ble_eq_true rfl) hd h ?_
      rintro v M33 ⟨r34, rfl, h⟩
      show q_Ex X d 159 (335 + 3) [some (.ref 1003), some (.ref 0), some (.ref 97), some (.int a3)] [.int r34] M33 _
      refine q_aload_n (pc := 338) k159_338 rfl ?_
      refine q_invV (pc := 339) (As := []) (st := [.int r34]) k159_339 lm159_51 ov129 rfl rfl rfl (q_cat rfl) (Nat.le_of_ble_eq_true rfl) hd h ?_
      rintro v M35 ⟨r36, rfl, h⟩
      show q_Ex X d 159 (339 + 3) [some (.ref 1003), some (.ref 0), some (.ref 97), some (.int a3)] [.int r36, .int r34] M35 _
      refine q_icmp_eq (pc := 342) 774 k159_342 (by decide) (fun g => ?_) (fun g => ?_)
      · replace h := h.1 g
        refine q_iinc (pc := 774) (v := a3 + 4) [some (.ref 1003), some (.ref 0), some (.ref 97), some (.int (a3 + 4))] k159_774 rfl rfl rfl (by decide) rfl ?_
        refine q_goto (pc := 777) 18 k159_777 (by decide) ?_
        exact h
      · replace h := h.2 g
        refine q_iconst (pc := 345) (v := 0) k159_345 (by decide) ?_
        exact q_zreturn (pc := 346) k159_346 rfl (by decide) ⟨_, rfl, h⟩
    by_cases g9 : ((X.2 (Int32.toNatClampNeg a3)) &&& 31) = 9
    · have h := e9 g9
      refine q_tsIn (pc := 32) 347 k159_32 (off := 315) (by rw [g9]; decide) (by rw [g9]; decide) (by rw [g9]; rfl) (by decide) ?_
      refine q_aload_n (pc := 347) k159_347 rfl ?_
      refine q_aload_n (pc := 348) k159_348 rfl ?_
      refine q_iload_n (pc := 349) k159_349 rfl ?_
      refine q_iconst (pc := 350) (v := 1) k159_350 (by decide) ?_
      refine q_iadd (pc := 351) k159_351 ?_
      refine q_raldv (pc := 352) (j := 3) (v := X.2 (Int32.toNatClampNeg (a3 + 1))) k159_352 (by decide) h.1 rfl ?_
      replace h := h.2
      refine q_invV (pc := 353) (As := [.int (X.2 (Int32.toNatClampNeg (a3 + 1)))]) (st := []) k159_353 lm159_52 ov53 rfl rfl rfl (q_cat rfl) (Nat.le_of_ble_eq_true rfl) hd h ?_
      rintro v M37 ⟨r38, rfl, h⟩
      show q_Ex X d 159 (353 + 3) [some (.ref 1003), some (.ref 0), some (.ref 97), some (.int a3)] [.int r38] M37 _
      refine q_aload_n (pc := 356) k159_356 rfl ?_
      refine q_aload_n (pc := 357) k159_357 rfl ?_
      refine q_iload_n (pc := 358) k159_358 rfl ?_
      refine q_iconst (pc := 359) (v := 1) k159_359 (by decide) ?_
      refine q_iadd (pc := 360) k159_360 ?_
      refine q_raldv (pc := 361) (j := 3) (v := X.2 (Int32.toNatClampNeg (a3 + 1))) k159_361 (by decide) h.1 rfl ?_
      replace h := h.2
      refine q_invV (pc := 362) (As := [.int (X.2 (Int32.toNatClampNeg (a3 + 1)))]) (st := [.int r38]) k159_362 lm159_55 ov130 rfl rfl rfl (q_cat rfl) (Nat.le_of_ble_eq_true rfl) hd h ?_
      rintro v M39 ⟨r40, rfl, h⟩
      show q_Ex X d 159 (362 + 3) [some (.ref 1003), some (.ref 0), some (.ref 97), some (.int a3)] [.int r40, .int r38] M39 _
      refine q_icmp_eq (pc := 365) 774 k159_365 (by decide) (fun g => ?_) (fun g => ?_)
      · replace h := h.1 g
        refine q_iinc (pc := 774) (v := a3 + 4) [some (.ref 1003), some (.ref 0), some (.ref 97), some (.int (a3 + 4))] k159_774 rfl rfl rfl (by decide) rfl ?_
        refine q_goto (pc := 777) 18 k159_777 (by decide) ?_
        exact h
      · replace h := h.2 g
        refine q_iconst (pc := 368) (v := 0) k159_368 (by decide) ?_
        exact q_zreturn (pc := 369) k159_369 rfl (by decide) ⟨_, rfl, h⟩
    by_cases g10 : ((X.2 (Int32.toNatClampNeg a3)) &&& 31) = 10
    · have h := e10 g10
      refine q_tsIn (pc := 32) 370 k159_32 (off := 338) (by rw [g10]; decide) (by rw [g10]; decide) (by rw [g10]; rfl) (by decide) ?_
      refine q_aload_n (pc := 370) k159_370 rfl ?_
      refine q_invV (pc := 371) (As := []) (st := []) k159_371 lm159_56 ov54 rfl rfl rfl (q_cat rfl) (Nat.le_of_ble_eq_true rfl) hd h ?_
      rintro v M41 ⟨r42, rfl, h⟩
      show q_Ex X d 159 (371 + 3) [some (.ref 1003), some (.ref 0), some (.ref 97), some (.int a3)] [.int r42] M41 _
      refine q_aload_n (pc := 374) k159_374 rfl ?_
      refine q_invV (pc := 375) (As := []) (st := [.int r42]) k159_375 lm159_59 ov131 rfl rfl rfl (q_cat rfl) (Nat.le_of_ble_eq_true rfl) hd h ?_
      rintro v M43 ⟨r44, rfl, h⟩
      show q_Ex X d 159 (375 + 3) [some (.ref 1003), some (.ref 0), some (.ref 97), some (.int a3)] [.int r44, .int r42] M43 _
      refine q_icmp_eq (pc := 378) 774 k159_378 (by decide) (fun g => ?_) (fun g => ?_)
      · replace h := h.1 g
        refine q_iinc (pc := 774) (v := a3 + 4) [some (.ref 1003), some (.ref 0), some (.ref 97), some (.int (a3 + 4))] k159_774 rfl rfl rfl (by decide) rfl ?_
        refine q_goto (pc := 777) 18 k159_777 (by decide) ?_
        exact h
      · replace h := h.2 g
        refine q_iconst (pc := 381) (v := 0) k159_381 (by decide) ?_
        exact q_zreturn (pc := 382) k159_382 rfl (by decide) ⟨_, rfl, h⟩
    by_cases g11 : ((X.2 (Int32.toNatClampNeg a3)) &&& 31) = 11
    · have h := e11 g11
      refine q_tsIn (pc := 32) 383 k159_32 (off := 351) (by rw [g11]; decide) (by rw [g11]; decide) (by rw [g11]; rfl) (by decide) ?_
      refine q_aload_n (pc := 383) k159_383 rfl ?_
      refine q_aload_n (pc := 384) k159_384 rfl ?_
      refine q_iload_n (pc := 385) k159_385 rfl ?_
      refine q_iconst (pc := 386) (v := 1) k159_386 (by decide) ?_
      refine q_iadd (pc := 387) k159_387 ?_
      refine q_raldv (pc := 388) (j := 3) (v := X.2 (Int32.toNatClampNeg (a3 + 1))) k159_388 (by decide) h.1 rfl ?_
      replace h := h.2
      refine q_aload_n (pc := 389) k159_389 rfl ?_
      refine q_iload_n (pc := 390) k159_390 rfl ?_
      refine q_iconst (pc := 391) (v := 2) k159_391 (by decide) ?_
      refine q_iadd (pc := 392) k159_392 ?_
      refine q_raldv (pc := 393) (j := 3) (v := X.2 (Int32.toNatClampNeg (a3 + 2))) k159_393 (by decide) h.1 rfl ?_
      replace h := h.2
      refine q_invV (pc := 394) (As := [.int (X.2 (Int32.toNatClampNeg (a3 + 1))), .int (X.2 (Int32.toNatClampNeg (a3 + 2)))]) (st := []) k159_394 lm159_60 ov55 rfl rfl rfl (q_cat rfl) (Nat.le_of_ble_eq_true rfl) hd h ?_
      rintro v M45 ⟨r46, rfl, h⟩
      show q_Ex X d 159 (394 + 3) [some (.ref 1003), some (.ref 0), some (.ref 97), some (.int a3)] [.int r46] M45 _
      refine q_aload_n (pc := 397) k159_397 rfl ?_
      refine q_aload_n (pc := 398) k159_398 rfl ?_
      refine q_iload_n (pc := 399) k159_399 rfl ?_
      refine q_iconst (pc := 400) (v := 1) k159_400 (by decide) ?_
      refine q_iadd (pc := 401) k159_401 ?_
      refine q_raldv (pc := 402) (j := 3) (v := X.2 (Int32.toNatClampNeg (a3 + 1))) k159_402 (by decide) h.1 rfl ?_
      replace h := h.2
      refine q_aload_n (pc := 403) k159_403 rfl ?_
      refine q_iload_n (pc := 404) k159_404 rfl ?_
      refine q_iconst (pc := 405) (v := 2) k159_405 (by decide) ?_
      refine q_iadd (pc := 406) k159_406 ?_
      refine q_raldv (pc := 407) (j := 3) (v := X.2 (Int32.toNatClampNeg (a3 + 2))) k159_407 (by decide) h.1 rfl ?_
      replace h := h.2
      refine q_invV (pc := 408) (As := [.int (X.2 (Int32.toNatClampNeg (a3 + 1))), .int (X.2 (Int32.toNatClampNeg (a3 + 2)))]) (st := [.int r46]) k159_408 lm159_63 ov133 rfl rfl rfl (q_cat rfl) (Nat.le_of_ble_eq_true rfl) hd h ?_
      rintro v M47 ⟨r48, rfl, h⟩
      show q_Ex X d 159 (408 + 3) [some (.ref 1003), some (.ref 0), some (.ref 97), some (.int a3)] [.int r48, .int r46] M47 _
      refine q_icmp_eq (pc := 411) 774 k159_411 (by decide) (fun g => ?_) (fun g => ?_)
      · replace h := h.1 g
        refine q_iinc (pc := 774) (v := a3 + 4) [some (.ref 1003), some (.ref 0), some (.ref 97), some (.int (a3 + 4))] k159_774 rfl rfl rfl (by decide) rfl ?_
        refine q_goto (pc := 777) 18 k159_777 (by decide) ?_
        exact h
      · replace h := h.2 g
        refine q_iconst (pc := 414) (v := 0) k159_414 (by decide) ?_
        exact q_zreturn (pc := 415) k159_415 rfl (by decide) ⟨_, rfl, h⟩
    by_cases g12 : ((X.2 (Int32.toNatClampNeg a3)) &&& 31) = 12
    · have h := e12 g12
      refine q_tsIn (pc := 32) 416 k159_32 (off := 384) (by rw [g12]; decide) (by rw [g12]; decide) (by rw [g12]; rfl) (by decide) ?_
      refine q_aload_n (pc := 416) k159_416 rfl ?_
      refine q_aload_n (pc := 417) k159_417 rfl ?_
      refine q_iload_n (pc := 418) k159_418 rfl ?_
      refine q_iconst (pc := 419) (v := 1) k159_419 (by decide) ?_
      refine q_iadd (pc := 420) k159_420 ?_
      refine q_raldv (pc := 421) (j := 3) (v := X.2 (Int32.toNatClampNeg (a3 + 1))) k159_421 (by decide) h.1 rfl ?_
      replace h := h.2
      refine q_aload_n (pc := 422) k159_422 rfl ?_
      refine q_iload_n (pc := 423) k159_423 rfl ?_
      refine q_iconst (pc := 424) (v := 2) k159_424 (by decide) ?_
      refine q_iadd (pc := 425) k159_425 ?_
      refine q_raldv (pc := 426) (j := 3) (v := X.2 (Int32.toNatClampNeg (a3 + 2))) k159_426 (by decide) h.1 rfl ?_
      replace h := h.2
      refine q_aload_n (pc := 427) k159_427 rfl ?_
      refine q_iload_n (pc := 428) k159_428 rfl ?_
      refine q_iconst (pc := 429) (v := 3) k159_429 (by decide) ?_
      refine q_iadd (pc := 430) k159_430 ?_
      refine q_raldv (pc := 431) (j := 3) (v := X.2 (Int32.toNatClampNeg (a3 + 3))) k159_431 (by decide) h.1 rfl ?_
      replace h := h.2
      refine q_invV (pc := 432) (As := [.int (X.2 (Int32.toNatClampNeg (a3 + 1))), .int (X.2 (Int32.toNatClampNeg (a3 + 2))), .int (X.2 (Int32.toNatClampNeg (a3 + 3)))]) (st := []) k159_432 lm159_64 ov56 rfl rfl rfl (q_cat rfl) (Nat.le_of_ble_eq_true rfl) hd h ?_
      rintro v M49 ⟨r50, rfl, h⟩
      show q_Ex X d 159 (432 + 3) [some (.ref 1003), some (.ref 0), some (.ref 97), some (.int a3)] [.int r50] M49 _
      refine q_aload_n (pc := 435) k159_435 rfl ?_
      refine q_aload_n (pc := 436) k159_436 rfl ?_
      refine q_iload_n (pc := 437) k159_437 rfl ?_
      refine q_iconst (pc := 438) (v := 1) k159_438 (by decide) ?_
      refine q_iadd (pc := 439) k159_439 ?_
      refine q_raldv (pc := 440) (j := 3) (v := X.2 (Int32.toNatClampNeg (a3 + 1))) k159_440 (by decide) h.1 rfl ?_
      replace h := h.2
      refine q_aload_n (pc := 441) k159_441 rfl ?_
      refine q_iload_n (pc := 442) k159_442 rfl ?_
      refine q_iconst (pc := 443) (v := 2) k159_443 (by decide) ?_
      refine q_iadd (pc := 444) k159_444 ?_
      refine q_raldv (pc := 445) (j := 3) (v := X.2 (Int32.toNatClampNeg (a3 + 2))) k159_445 (by decide) h.1 rfl ?_
      replace h := h.2
      refine q_aload_n (pc := 446) k159_446 rfl ?_
      refine q_iload_n (pc := 447) k159_447 rfl ?_
      refine q_iconst (pc := 448) (v := 3) k159_448 (by decide) ?_
      refine q_iadd (pc := 449) k159_449 ?_
      refine q_raldv (pc := 450) (j := 3) (v := X.2 (Int32.toNatClampNeg (a3 + 3))) k159_450 (by decide) h.1 rfl ?_
      replace h := h.2
      refine q_invV (pc := 451) (As := [.int (X.2 (Int32.toNatClampNeg (a3 + 1))), .int (X.2 (Int32.toNatClampNeg (a3 + 2))), .int (X.2 (Int32.toNatClampNeg (a3 + 3)))]) (st := [.int r50]) k159_451 lm159_68 ov135 rfl rfl rfl (q_cat rfl) (Nat.le_of_ble_eq_true rfl) hd h ?_
      rintro v M51 ⟨r52, rfl, h⟩
      show q_Ex X d 159 (451 + 3) [some (.ref 1003), some (.ref 0), some (.ref 97), some (.int a3)] [.int r52, .int r50] M51 _
      refine q_icmp_eq (pc := 454) 774 k159_454 (by decide) (fun g => ?_) (fun g => ?_)
      · replace h := h.1 g
        refine q_iinc (pc := 774) (v := a3 + 4) [some (.ref 1003), some (.ref 0), some (.ref 97), some (.int (a3 + 4))] k159_774 rfl rfl rfl (by decide) rfl ?_
        refine q_goto (pc := 777) 18 k159_777 (by decide) ?_
        exact h
      · replace h := h.2 g
        refine q_iconst (pc := 457) (v := 0) k159_457 (by decide) ?_
        exact q_zreturn (pc := 458) k159_458 rfl (by decide) ⟨_, rfl, h⟩
    by_cases g13 : ((X.2 (Int32.toNatClampNeg a3)) &&& 31) = 13
    · have h := e13 g13
      refine q_tsIn (pc := 32) 459 k159_32 (off := 427) (by rw [g13]; decide) (by rw [g13]; decide) (by rw [g13]; rfl) (by decide) ?_
      refine q_aload_n (pc := 459) k159_459 rfl ?_
      refine q_aload_n (pc := 460) k159_460 rfl ?_
      refine q_iload_n (pc := 461) k159_461 rfl ?_
      refine q_iconst (pc := 462) (v := 1) k159_462 (by decide) ?_
      refine q_iadd (pc := 463) k159_463 ?_
      refine q_raldv (pc := 464) (j := 3) (v := X.2 (Int32.toNatClampNeg (a3 + 1))) k159_464 (by decide) h.1 rfl ?_
      replace h := h.2
      refine q_aload_n (pc := 465) k159_465 rfl ?_
      refine q_iload_n (pc := 466) k159_466 rfl ?_
      refine q_iconst (pc := 467) (v := 2) k159_467 (by decide) ?_
      refine q_iadd (pc := 468) k159_468 ?_
      refine q_raldv (pc := 469) (j := 3) (v := X.2 (Int32.toNatClampNeg (a3 + 2))) k159_469 (by decide) h.1 rfl ?_
      replace h := h.2
      refine q_aload_n (pc := 470) k159_470 rfl ?_
      refine q_iload_n (pc := 471) k159_471 rfl ?_
      refine q_iconst (pc := 472) (v := 3) k159_472 (by decide) ?_
      refine q_iadd (pc := 473) k159_473 ?_
      refine q_raldv (pc := 474) (j := 3) (v := X.2 (Int32.toNatClampNeg (a3 + 3))) k159_474 (by decide) h.1 rfl ?_
      replace h := h.2
      refine q_invV (pc := 475) (As := [.int (X.2 (Int32.toNatClampNeg (a3 + 1))), .int (X.2 (Int32.toNatClampNeg (a3 + 2))), .int (X.2 (Int32.toNatClampNeg (a3 + 3)))]) (st := []) k159_475 lm159_69 ov57 rfl rfl rfl (q_cat rfl) (Nat.le_of_ble_eq_true rfl) hd h ?_
      rintro v M53 ⟨r54, rfl, h⟩
      show q_Ex X d 159 (475 + 3) [some (.ref 1003), some (.ref 0), some (.ref 97), some (.int a3)] [.int r54] M53 _
      refine q_aload_n (pc := 478) k159_478 rfl ?_
      refine q_aload_n (pc := 479) k159_479 rfl ?_
      refine q_iload_n (pc := 480) k159_480 rfl ?_
      refine q_iconst (pc := 481) (v := 1) k159_481 (by decide) ?_
      refine q_iadd (pc := 482) k159_482 ?_
      refine q_raldv (pc := 483) (j := 3) (v := X.2 (Int32.toNatClampNeg (a3 + 1))) k159_483 (by decide) h.1 rfl ?_
      replace h := h.2
      refine q_aload_n (pc := 484) k159_484 rfl ?_
      refine q_iload_n (pc := 485) k159_485 rfl ?_
      refine q_iconst (pc := 486) (v := 2) k159_486 (by decide) ?_
      refine q_iadd (pc := 487) k159_487 ?_
      refine q_raldv (pc := 488) (j := 3) (v := X.2 (Int32.toNatClampNeg (a3 + 2))) k159_488 (by decide) h.1 rfl ?_
      replace h := h.2
      refine q_aload_n (pc := 489) k159_489 rfl ?_
      refine q_iload_n (pc := 490) k159_490 rfl ?_
      refine q_iconst (pc := 491) (v := 3) k159_491 (by decide) ?_
      refine q_iadd (pc := 492) k159_492 ?_
      refine q_raldv (pc := 493) (j := 3) (v := X.2 (Int32.toNatClampNeg (a3 + 3))) k159_493 (by decide) h.1 rfl ?_
      replace h := h.2
      refine q_invV (pc := 494) (As := [.int (X.2 (Int32.toNatClampNeg (a3 + 1))), .int (X.2 (Int32.toNatClampNeg (a3 + 2))), .int (X.2 (Int32.toNatClampNeg (a3 + 3)))]) (st := [.int r54]) k159_494 lm159_72 ov136 rfl rfl rfl (q_cat rfl) (Nat.le_of_ble_eq_true rfl) hd h ?_
      rintro v M55 ⟨r56, rfl, h⟩
      show q_Ex X d 159 (494 + 3) [some (.ref 1003), some (.ref 0), some (.ref 97), some (.int a3)] [.int r56, .int r54] M55 _
      refine q_icmp_eq (pc := 497) 774 k159_497 (by decide) (fun g => ?_) (fun g => ?_)
      · replace h := h.1 g
        refine q_iinc (pc := 774) (v := a3 + 4) [some (.ref 1003), some (.ref 0), some (.ref 97), some (.int (a3 + 4))] k159_774 rfl rfl rfl (by decide) rfl ?_
        refine q_goto (pc := 777) 18 k159_777 (by decide) ?_
        exact h
      · replace h := h.2 g
        refine q_iconst (pc := 500) (v := 0) k159_500 (by decide) ?_
        exact q_zreturn (pc := 501) k159_501 rfl (by decide) ⟨_, rfl, h⟩
    by_cases g14 : ((X.2 (Int32.toNatClampNeg a3)) &&& 31) = 14
    · have h := e14 g14
      refine q_tsIn (pc := 32) 502 k159_32 (off := 470) (by rw [g14]; decide) (by rw [g14]; decide) (by rw [g14]; rfl) (by decide) ?_
      refine q_aload_n (pc := 502) k159_502 rfl ?_
      refine q_invV (pc := 503) (As := []) (st := []) k159_503 lm159_73 ov58 rfl rfl rfl (q_cat rfl) (Nat.le_of_ble_eq_true rfl) hd h ?_
      rintro v M57 ⟨r58, rfl, h⟩
      show q_Ex X d 159 (503 + 3) [some (.ref 1003), some (.ref 0), some (.ref 97), some (.int a3)] [.int r58] M57 _
      refine q_aload_n (pc := 506) k159_506 rfl ?_
      refine q_invV (pc := 507) (As := []) (st := [.int r58]) k159_507 lm159_76 ov139 rfl rfl rfl (q_cat rfl) (Nat.le_of_ble_eq_true rfl) hd h ?_
      rintro v M59 ⟨r60, rfl, h⟩
      show q_Ex X d 159 (507 + 3) [some (.ref 1003), some (.ref 0), some (.ref 97), some (.int a3)] [.int r60, .int r58] M59 _
      refine q_icmp_eq (pc := 510) 774 k159_510 (by decide) (fun g => ?_) (fun g => ?_)
      · replace h := h.1 g
        refine q_iinc (pc := 774) (v := a3 + 4) [some (.ref 1003), some (.ref 0), some (.ref 97), some (.int (a3 + 4))] k159_774 rfl rfl rfl (by decide) rfl ?_
        refine q_goto (pc := 777) 18 k159_777 (by decide) ?_
        exact h
      · replace h := h.2 g
        refine q_iconst (pc := 513) (v := 0) k159_513 (by decide) ?_
        exact q_zreturn (pc := 514) k159_514 rfl (by decide) ⟨_, rfl, h⟩
    by_cases g15 : ((X.2 (Int32.toNatClampNeg a3)) &&& 31) = 15
    · have h := e15 g15
      refine q_tsIn (pc := 32) 515 k159_32 (off := 483) (by rw [g15]; decide) (by rw [g15]; decide) (by rw [g15]; rfl) (by decide) ?_
      refine q_aload_n (pc := 515) k159_515 rfl ?_
      refine q_invV (pc := 516) (As := []) (st := []) k159_516 lm159_77 ov59 rfl rfl rfl (q_cat rfl) (Nat.le_of_ble_eq_true rfl) hd h ?_
      rintro v M61 ⟨r62, rfl, h⟩
      show q_Ex X d 159 (516 + 3) [some (.ref 1003), some (.ref 0), some (.ref 97), some (.int a3)] [.int r62] M61 _
      refine q_aload_n (pc := 519) k159_519 rfl ?_
      refine q_invV (pc := 520) (As := []) (st := [.int r62]) k159_520 lm159_80 ov140 rfl rfl rfl (q_cat rfl) (Nat.le_of_ble_eq_true rfl) hd h ?_
      rintro v M63 ⟨r64, rfl, h⟩
      show q_Ex X d 159 (520 + 3) [some (.ref 1003), some (.ref 0), some (.ref 97), some (.int a3)] [.int r64, .int r62] M63 _
      refine q_icmp_eq (pc := 523) 774 k159_523 (by decide) (fun g => ?_) (fun g => ?_)
      · replace h := h.1 g
        refine q_iinc (pc := 774) (v := a3 + 4) [some (.ref 1003), some (.ref 0), some (.ref 97), some (.int (a3 + 4))] k159_774 rfl rfl rfl (by decide) rfl ?_
        refine q_goto (pc := 777) 18 k159_777 (by decide) ?_
        exact h
      · replace h := h.2 g
        refine q_iconst (pc := 526) (v := 0) k159_526 (by decide) ?_
        exact q_zreturn (pc := 527) k159_527 rfl (by decide) ⟨_, rfl, h⟩
    by_cases g16 : ((X.2 (Int32.toNatClampNeg a3)) &&& 31) = 16
    · have h := e16 g16
      refine q_tsIn (pc := 32) 528 k159_32 (off := 496) (by rw [g16]; decide) (by rw [g16]; decide) (by rw [g16]; rfl) (by decide) ?_
      refine q_aload_n (pc := 528) k159_528 rfl ?_
      refine q_aload_n (pc := 529) k159_529 rfl ?_
      refine q_iload_n (pc := 530) k159_530 rfl ?_
      refine q_iconst (pc := 531) (v := 1) k159_531 (by decide) ?_
      refine q_iadd (pc := 532) k159_532 ?_
      refine q_raldv (pc := 533) (j := 3) (v := X.2 (Int32.toNatClampNeg (a3 + 1))) k159_533 (by decide) h.1 rfl ?_
      replace h := h.2
      refine q_invV (pc := 534) (As := [.int (X.2 (Int32.toNatClampNeg (a3 + 1)))]) (st := []) k159_534 lm159_81 ov60 rfl rfl rfl (q_cat rfl) (Nat.le_of_ble_eq_true rfl) hd h ?_
      rintro v M65 ⟨r66, rfl, h⟩
      show q_Ex X d 159 (534 + 3) [some (.ref 1003), some (.ref 0), some (.ref 97), some (.int a3)] [.int r66] M65 _
      refine q_aload_n (pc := 537) k159_537 rfl ?_
      refine q_aload_n (pc := 538) k159_538 rfl ?_
      refine q_iload_n (pc := 539) k159_539 rfl ?_
      refine q_iconst (pc := 540) (v := 1) k159_540 (by decide) ?_
      refine q_iadd (pc := 541) k159_541 ?_
      refine q_raldv (pc := 542) (j := 3) (v := X.2 (Int32.toNatClampNeg (a3 + 1))) k159_542 (by decide) h.1 rfl ?_
      replace h := h.2
      refine q_invV (pc := 543) (As := [.int (X.2 (Int32.toNatClampNeg (a3 + 1)))]) (st := [.int r66]) k159_543 lm159_84 ov141 rfl rfl rfl (q_cat rfl) (Nat.le_of_ble_eq_true rfl) hd h ?_
      rintro v M67 ⟨r68, rfl, h⟩
      show q_Ex X d 159 (543 + 3) [some (.ref 1003), some (.ref 0), some (.ref 97), some (.int a3)] [.int r68, .int r66] M67 _
      refine q_icmp_eq (pc := 546) 774 k159_546 (by decide) (fun g => ?_) (fun g => ?_)
      · replace h := h.1 g
        refine q_iinc (pc := 774) (v := a3 + 4) [some (.ref 1003), some (.ref 0), some (.ref 97), some (.int (a3 + 4))] k159_774 rfl rfl rfl (by decide) rfl ?_
        refine q_goto (pc := 777) 18 k159_777 (by decide) ?_
        exact h
      · replace h := h.2 g
        refine q_iconst (pc := 549) (v := 0) k159_549 (by decide) ?_
        exact q_zreturn (pc := 550) k159_550 rfl (by decide) ⟨_, rfl, h⟩
    by_cases g17 : ((X.2 (Int32.toNatClampNeg a3)) &&& 31) = 17
    · have h := e17 g17
      refine q_tsIn (pc := 32) 551 k159_32 (off := 519) (by rw [g17]; decide) (by rw [g17]; decide) (by rw [g17]; rfl) (by decide) ?_
      refine q_aload_n (pc := 551) k159_551 rfl ?_
      refine q_invV (pc := 552) (As := []) (st := []) k159_552 lm159_85 ov61 rfl rfl rfl (q_cat rfl) (Nat.le_of_ble_eq_true rfl) hd h ?_
      rintro v M69 ⟨r70, rfl, h⟩
      show q_Ex X d 159 (552 + 3) [some (.ref 1003), some (.ref 0), some (.ref 97), some (.int a3)] [.int r70] M69 _
      refine q_aload_n (pc := 555) k159_555 rfl ?_
      refine q_invV (pc := 556) (As := []) (st := [.int r70]) k159_556 lm159_88 ov142 rfl rfl rfl (q_cat rfl) (Nat.le_of_ble_eq_true rfl) hd h ?_
      rintro v M71 ⟨r72, rfl, h⟩
      show q_Ex X d 159 (556 + 3) [some (.ref 1003), some (.ref 0), some (.ref 97), some (.int a3)] [.int r72, .int r70] M71 _
      refine q_icmp_eq (pc := 559) 774 k159_559 (by decide) (fun g => ?_) (fun g => ?_)
      · replace h := h.1 g
        refine q_iinc (pc := 774) (v := a3 + 4) [some (.ref 1003), some (.ref 0), some (.ref 97), some (.int (a3 + 4))] k159_774 rfl rfl rfl (by decide) rfl ?_
        refine q_goto (pc := 777) 18 k159_777 (by decide) ?_
        exact h
      · replace h := h.2 g
        refine q_iconst (pc := 562) (v := 0) k159_562 (by decide) ?_
        exact q_zreturn (pc := 563) k159_563 rfl (by decide) ⟨_, rfl, h⟩
    by_cases g18 : ((X.2 (Int32.toNatClampNeg a3)) &&& 31) = 18
    · have h := e18 g18
      refine q_tsIn (pc := 32) 564 k159_32 (off := 532) (by rw [g18]; decide) (by rw [g18]; decide) (by rw [g18]; rfl) (by decide) ?_
      refine q_aload_n (pc := 564) k159_564 rfl ?_
      refine q_aload_n (pc := 565) k159_565 rfl ?_
      refine q_iload_n (pc := 566) k159_566 rfl ?_
      refine q_iconst (pc := 567) (v := 1) k159_567 (by decide) ?_
      refine q_iadd (pc := 568) k159_568 ?_
      refine q_raldv (pc := 569) (j := 3) (v := X.2 (Int32.toNatClampNeg (a3 + 1))) k159_569 (by decide) h.1 rfl ?_
      replace h := h.2
      refine q_invV (pc := 570) (As := [.int (X.2 (Int32.toNatClampNeg (a3 + 1)))]) (st := []) k159_570 lm159_89 ov62 rfl rfl rfl (q_cat rfl) (Nat.le_of_ble_eq_true rfl) hd h ?_
      rintro v M73 ⟨r74, rfl, h⟩
      show q_Ex X d 159 (570 + 3) [some (.ref 1003), some (.ref 0), some (.ref 97), some (.int a3)] [.int r74] M73 _
      refine q_aload_n (pc := 573) k159_573 rfl ?_
      refine q_aload_n (pc := 574) k159_574 rfl ?_
      refine q_iload_n (pc := 575) k159_575 rfl ?_
      refine q_iconst (pc := 576) (v := 1) k159_576 (by decide) ?_
      refine q_iadd (pc := 577) k159_577 ?_
      refine q_raldv (pc := 578) (j := 3) (v := X.2 (Int32.toNatClampNeg (a3 + 1))) k159_578 (by decide) h.1 rfl ?_
      replace h := h.2
      refine q_invV (pc := 579) (As := [.int (X.2 (Int32.toNatClampNeg (a3 + 1)))]) (st := [.int r74]) k159_579 lm159_92 ov143 rfl rfl rfl (q_cat rfl) (Nat.le_of_ble_eq_true rfl) hd h ?_
      rintro v M75 ⟨r76, rfl, h⟩
      show q_Ex X d 159 (579 + 3) [some (.ref 1003), some (.ref 0), some (.ref 97), some (.int a3)] [.int r76, .int r74] M75 _
      refine q_icmp_eq (pc := 582) 774 k159_582 (by decide) (fun g => ?_) (fun g => ?_)
      · replace h := h.1 g
        refine q_iinc (pc := 774) (v := a3 + 4) [some (.ref 1003), some (.ref 0), some (.ref 97), some (.int (a3 + 4))] k159_774 rfl rfl rfl (by decide) rfl ?_
        refine q_goto (pc := 777) 18 k159_777 (by decide) ?_
        exact h
      · replace h := h.2 g
        refine q_iconst (pc := 585) (v := 0) k159_585 (by decide) ?_
        exact q_zreturn (pc := 586) k159_586 rfl (by decide) ⟨_, rfl, h⟩
    by_cases g19 : ((X.2 (Int32.toNatClampNeg a3)) &&& 31) = 19
    · have h := e19 g19
      refine q_tsIn (pc := 32) 587 k159_32 (off := 555) (by rw [g19]; decide) (by rw [g19]; decide) (by rw [g19]; rfl) (by decide) ?_
      refine q_aload_n (pc := 587) k159_587 rfl ?_
      refine q_aload_n (pc := 588) k159_588 rfl ?_
      refine q_iload_n (pc := 589) k159_589 rfl ?_
      refine q_iconst (pc := 590) (v := 1) k159_590 (by decide) ?_
      refine q_iadd (pc := 591) k159_591 ?_
      refine q_raldv (pc := 592) (j := 3) (v := X.2 (Int32.toNatClampNeg (a3 + 1))) k159_592 (by decide) h.1 rfl ?_
      replace h := h.2
      refine q_invV (pc := 593) (As := [.int (X.2 (Int32.toNatClampNeg (a3 + 1)))]) (st := []) k159_593 lm159_93 ov63 rfl rfl rfl (q_cat rfl) (Nat.le_of_ble_eq_true rfl) hd h ?_
      rintro v M77 ⟨r78, rfl, h⟩
      show q_Ex X d 159 (593 + 3) [some (.ref 1003), some (.ref 0), some (.ref 97), some (.int a3)] [.int r78] M77 _
      refine q_aload_n (pc := 596) k159_596 rfl ?_
      refine q_aload_n (pc := 597) k159_597 rfl ?_
      refine q_iload_n (pc := 598) k159_598 rfl ?_
      refine q_iconst (pc := 599) (v := 1) k159_599 (by decide) ?_
      refine q_iadd (pc := 600) k159_600 ?_
      refine q_raldv (pc := 601) (j := 3) (v := X.2 (Int32.toNatClampNeg (a3 + 1))) k159_601 (by decide) h.1 rfl ?_
      replace h := h.2
      refine q_invV (pc := 602) (As := [.int (X.2 (Int32.toNatClampNeg (a3 + 1)))]) (st := [.int r78]) k159_602 lm159_96 ov144 rfl rfl rfl (q_cat rfl) (Nat.le_of_ble_eq_true rfl) hd h ?_
      rintro v M79 ⟨r80, rfl, h⟩
      show q_Ex X d 159 (602 + 3) [some (.ref 1003), some (.ref 0), some (.ref 97), some (.int a3)] [.int r80, .int r78] M79 _
      refine q_icmp_eq (pc := 605) 774 k159_605 (by decide) (fun g => ?_) (fun g => ?_)
      · replace h := h.1 g
        refine q_iinc (pc := 774) (v := a3 + 4) [some (.ref 1003), some (.ref 0), some (.ref 97), some (.int (a3 + 4))] k159_774 rfl rfl rfl (by decide) rfl ?_
        refine q_goto (pc := 777) 18 k159_777 (by decide) ?_
        exact h
      · replace h := h.2 g
        refine q_iconst (pc := 608) (v := 0) k159_608 (by decide) ?_
        exact q_zreturn (pc := 609) k159_609 rfl (by decide) ⟨_, rfl, h⟩
    by_cases g20 : ((X.2 (Int32.toNatClampNeg a3)) &&& 31) = 20
    · have h := e20 g20
      refine q_tsIn (pc := 32) 610 k159_32 (off := 578) (by rw [g20]; decide) (by rw [g20]; decide) (by rw [g20]; rfl) (by decide) ?_
      refine q_aload_n (pc := 610) k159_610 rfl ?_
      refine q_invV (pc := 611) (As := []) (st := []) k159_611 lm159_97 ov64 rfl rfl rfl (q_cat rfl) (Nat.le_of_ble_eq_true rfl) hd h ?_
      rintro v M81 ⟨r82, rfl, h⟩
      show q_Ex X d 159 (611 + 3) [some (.ref 1003), some (.ref 0), some (.ref 97), some (.int a3)] [.int r82] M81 _
      refine q_aload_n (pc := 614) k159_614 rfl ?_
      refine q_invV (pc := 615) (As := []) (st := [.int r82]) k159_615 lm159_100 ov145 rfl rfl rfl (q_cat rfl) (Nat.le_of_ble_eq_true rfl) hd h ?_
      rintro v M83 ⟨r84, rfl, h⟩
      show q_Ex X d 159 (615 + 3) [some (.ref 1003), some (.ref 0), some (.ref 97), some (.int a3)] [.int r84, .int r82] M83 _
      refine q_icmp_eq (pc := 618) 774 k159_618 (by decide) (fun g => ?_) (fun g => ?_)
      · replace h := h.1 g
        refine q_iinc (pc := 774) (v := a3 + 4) [some (.ref 1003), some (.ref 0), some (.ref 97), some (.int (a3 + 4))] k159_774 rfl rfl rfl (by decide) rfl ?_
        refine q_goto (pc := 777) 18 k159_777 (by decide) ?_
        exact h
      · replace h := h.2 g
        refine q_iconst (pc := 621) (v := 0) k159_621 (by decide) ?_
        exact q_zreturn (pc := 622) k159_622 rfl (by decide) ⟨_, rfl, h⟩
    by_cases g21 : ((X.2 (Int32.toNatClampNeg a3)) &&& 31) = 21
    · have h := e21 g21
      refine q_tsIn (pc := 32) 623 k159_32 (off := 591) (by rw [g21]; decide) (by rw [g21]; decide) (by rw [g21]; rfl) (by decide) ?_
      refine q_aload_n (pc := 623) k159_623 rfl ?_
      refine q_aload_n (pc := 624) k159_624 rfl ?_
      refine q_iload_n (pc := 625) k159_625 rfl ?_
      refine q_iconst (pc := 626) (v := 1) k159_626 (by decide) ?_
      refine q_iadd (pc := 627) k159_627 ?_
      refine q_raldv (pc := 628) (j := 3) (v := X.2 (Int32.toNatClampNeg (a3 + 1))) k159_628 (by decide) h.1 rfl ?_
      replace h := h.2
      refine q_aload_n (pc := 629) k159_629 rfl ?_
      refine q_iload_n (pc := 630) k159_630 rfl ?_
      refine q_iconst (pc := 631) (v := 2) k159_631 (by decide) ?_
      refine q_iadd (pc := 632) k159_632 ?_
      refine q_raldv (pc := 633) (j := 3) (v := X.2 (Int32.toNatClampNeg (a3 + 2))) k159_633 (by decide) h.1 rfl ?_
      replace h := h.2
      refine q_aload_n (pc := 634) k159_634 rfl ?_
      refine q_iload_n (pc := 635) k159_635 rfl ?_
      refine q_iconst (pc := 636) (v := 3) k159_636 (by decide) ?_
      refine q_iadd (pc := 637) k159_637 ?_
      refine q_raldv (pc := 638) (j := 3) (v := X.2 (Int32.toNatClampNeg (a3 + 3))) k159_638 (by decide) h.1 rfl ?_
      replace h := h.2
      refine q_invV (pc := 639) (As := [.int (X.2 (Int32.toNatClampNeg (a3 + 1))), .int (X.2 (Int32.toNatClampNeg (a3 + 2))), .int (X.2 (Int32.toNatClampNeg (a3 + 3)))]) (st := []) k159_639 lm159_101 ov65 rfl rfl rfl (q_cat rfl) (Nat.le_of_ble_eq_true rfl) hd h ?_
      rintro v M85 ⟨r86, rfl, h⟩
      show q_Ex X d 159 (639 + 3) [some (.ref 1003), some (.ref 0), some (.ref 97), some (.int a3)] [.int r86] M85 _
      refine q_aload_n (pc := 642) k159_642 rfl ?_
      refine q_aload_n (pc := 643) k159_643 rfl ?_
      refine q_iload_n (pc := 644) k159_644 rfl ?_
      refine q_iconst (pc := 645) (v := 1) k159_645 (by decide) ?_
      refine q_iadd (pc := 646) k159_646 ?_
      refine q_raldv (pc := 647) (j := 3) (v := X.2 (Int32.toNatClampNeg (a3 + 1))) k159_647 (by decide) h.1 rfl ?_
      replace h := h.2
      refine q_aload_n (pc := 648) k159_648 rfl ?_
      refine q_iload_n (pc := 649) k159_649 rfl ?_
      refine q_iconst (pc := 650) (v := 2) k159_650 (by decide) ?_
      refine q_iadd (pc := 651) k159_651 ?_
      refine q_raldv (pc := 652) (j := 3) (v := X.2 (Int32.toNatClampNeg (a3 + 2))) k159_652 (by decide) h.1 rfl ?_
      replace h := h.2
      refine q_aload_n (pc := 653) k159_653 rfl ?_
      refine q_iload_n (pc := 654) k159_654 rfl ?_
      refine q_iconst (pc := 655) (v := 3) k159_655 (by decide) ?_
      refine q_iadd (pc := 656) k159_656 ?_
      refine q_raldv (pc := 657) (j := 3) (v := X.2 (Int32.toNatClampNeg (a3 + 3))) k159_657 (by decide) h.1 rfl ?_
      replace h := h.2
      refine q_invV (pc := 658) (As := [.int (X.2 (Int32.toNatClampNeg (a3 + 1))), .int (X.2 (Int32.toNatClampNeg (a3 + 2))), .int (X.2 (Int32.toNatClampNeg (a3 + 3)))]) (st := [.int r86]) k159_658 lm159_104 ov147 rfl rfl rfl (q_cat rfl) (Nat.le_of_ble_eq_true rfl) hd h ?_
      rintro v M87 ⟨r88, rfl, h⟩
      show q_Ex X d 159 (658 + 3) [some (.ref 1003), some (.ref 0), some (.ref 97), some (.int a3)] [.int r88, .int r86] M87 _
      refine q_icmp_eq (pc := 661) 774 k159_661 (by decide) (fun g => ?_) (fun g => ?_)
      · replace h := h.1 g
        refine q_iinc (pc := 774) (v := a3 + 4) [some (.ref 1003), some (.ref 0), some (.ref 97), some (.int (a3 + 4))] k159_774 rfl rfl rfl (by decide) rfl ?_
        refine q_goto (pc := 777) 18 k159_777 (by decide) ?_
        exact h
      · replace h := h.2 g
        refine q_iconst (pc := 664) (v := 0) k159_664 (by decide) ?_
        exact q_zreturn (pc := 665) k159_665 rfl (by decide) ⟨_, rfl, h⟩
    by_cases g22 : ((X.2 (Int32.toNatClampNeg a3)) &&& 31) = 22
    · have h := e22 g22
      refine q_tsIn (pc := 32) 666 k159_32 (off := 634) (by rw [g22]; decide) (by rw [g22]; decide) (by rw [g22]; rfl) (by decide) ?_
      refine q_aload_n (pc := 666) k159_666 rfl ?_
      refine q_aload_n (pc := 667) k159_667 rfl ?_
      refine q_iload_n (pc := 668) k159_668 rfl ?_
      refine q_iconst (pc := 669) (v := 1) k159_669 (by decide) ?_
      refine q_iadd (pc := 670) k159_670 ?_
      refine q_raldv (pc := 671) (j := 3) (v := X.2 (Int32.toNatClampNeg (a3 + 1))) k159_671 (by decide) h.1 rfl ?_
      replace h := h.2
      refine q_aload_n (pc := 672) k159_672 rfl ?_
      refine q_iload_n (pc := 673) k159_673 rfl ?_
      refine q_iconst (pc := 674) (v := 2) k159_674 (by decide) ?_
      refine q_iadd (pc := 675) k159_675 ?_
      refine q_raldv (pc := 676) (j := 3) (v := X.2 (Int32.toNatClampNeg (a3 + 2))) k159_676 (by decide) h.1 rfl ?_
      replace h := h.2
      refine q_invV (pc := 677) (As := [.int (X.2 (Int32.toNatClampNeg (a3 + 1))), .int (X.2 (Int32.toNatClampNeg (a3 + 2)))]) (st := []) k159_677 lm159_105 ov66 rfl rfl rfl (q_cat rfl) (Nat.le_of_ble_eq_true rfl) hd h ?_
      rintro v M89 ⟨r90, rfl, h⟩
      show q_Ex X d 159 (677 + 3) [some (.ref 1003), some (.ref 0), some (.ref 97), some (.int a3)] [.int r90] M89 _
      refine q_aload_n (pc := 680) k159_680 rfl ?_
      refine q_aload_n (pc := 681) k159_681 rfl ?_
      refine q_iload_n (pc := 682) k159_682 rfl ?_
      refine q_iconst (pc := 683) (v := 1) k159_683 (by decide) ?_
      refine q_iadd (pc := 684) k159_684 ?_
      refine q_raldv (pc := 685) (j := 3) (v := X.2 (Int32.toNatClampNeg (a3 + 1))) k159_685 (by decide) h.1 rfl ?_
      replace h := h.2
      refine q_aload_n (pc := 686) k159_686 rfl ?_
      refine q_iload_n (pc := 687) k159_687 rfl ?_
      refine q_iconst (pc := 688) (v := 2) k159_688 (by decide) ?_
      refine q_iadd (pc := 689) k159_689 ?_
      refine q_raldv (pc := 690) (j := 3) (v := X.2 (Int32.toNatClampNeg (a3 + 2))) k159_690 (by decide) h.1 rfl ?_
      replace h := h.2
      refine q_invV (pc := 691) (As := [.int (X.2 (Int32.toNatClampNeg (a3 + 1))), .int (X.2 (Int32.toNatClampNeg (a3 + 2)))]) (st := [.int r90]) k159_691 lm159_108 ov148 rfl rfl rfl (q_cat rfl) (Nat.le_of_ble_eq_true rfl) hd h ?_
      rintro v M91 ⟨r92, rfl, h⟩
      show q_Ex X d 159 (691 + 3) [some (.ref 1003), some (.ref 0), some (.ref 97), some (.int a3)] [.int r92, .int r90] M91 _
      refine q_icmp_eq (pc := 694) 774 k159_694 (by decide) (fun g => ?_) (fun g => ?_)
      · replace h := h.1 g
        refine q_iinc (pc := 774) (v := a3 + 4) [some (.ref 1003), some (.ref 0), some (.ref 97), some (.int (a3 + 4))] k159_774 rfl rfl rfl (by decide) rfl ?_
        refine q_goto (pc := 777) 18 k159_777 (by decide) ?_
        exact h
      · replace h := h.2 g
        refine q_iconst (pc := 697) (v := 0) k159_697 (by decide) ?_
        exact q_zreturn (pc := 698) k159_698 rfl (by decide) ⟨_, rfl, h⟩
    by_cases g23 : ((X.2 (Int32.toNatClampNeg a3)) &&& 31) = 23
    · have h := e23 g23
      refine q_tsIn (pc := 32) 699 k159_32 (off := 667) (by rw [g23]; decide) (by rw [g23]; decide) (by rw [g23]; rfl) (by decide) ?_
      refine q_aload_n (pc := 699) k159_699 rfl ?_
      refine q_invV (pc := 700) (As := []) (st := []) k159_700 lm159_109 ov67 rfl rfl rfl (q_cat rfl) (Nat.le_of_ble_eq_true rfl) hd h ?_
      rintro v M93 ⟨r94, rfl, h⟩
      show q_Ex X d 159 (700 + 3) [some (.ref 1003), some (.ref 0), some (.ref 97), some (.int a3)] [.int r94] M93 _
      refine q_aload_n (pc := 703) k159_703 rfl ?_
      refine q_invV (pc := 704) (As := []) (st := [.int r94]) k159_704 lm159_112 ov150 rfl rfl rfl (q_cat rfl) (Nat.le_of_ble_eq_true rfl) hd h ?_
      rintro v M95 ⟨r96, rfl, h⟩
      show q_Ex X d 159 (704 + 3) [some (.ref 1003), some (.ref 0), some (.ref 97), some (.int a3)] [.int r96, .int r94] M95 _
      refine q_icmp_eq (pc := 707) 774 k159_707 (by decide) (fun g => ?_) (fun g => ?_)
      · replace h := h.1 g
        refine q_iinc (pc := 774) (v := a3 + 4) [some (.ref 1003), some (.ref 0), some (.ref 97), some (.int (a3 + 4))] k159_774 rfl rfl rfl (by decide) rfl ?_
        refine q_goto (pc := 777) 18 k159_777 (by decide) ?_
        exact h
      · replace h := h.2 g
        refine q_iconst (pc := 710) (v := 0) k159_710 (by decide) ?_
        exact q_zreturn (pc := 711) k159_711 rfl (by decide) ⟨_, rfl, h⟩
    by_cases g24 : ((X.2 (Int32.toNatClampNeg a3)) &&& 31) = 24
    · have h := e24 g24
      refine q_tsIn (pc := 32) 712 k159_32 (off := 680) (by rw [g24]; decide) (by rw [g24]; decide) (by rw [g24]; rfl) (by decide) ?_
      refine q_aload_n (pc := 712) k159_712 rfl ?_
      refine q_invV (pc := 713) (As := []) (st := []) k159_713 lm159_113 ov68 rfl rfl rfl (q_cat rfl) (Nat.le_of_ble_eq_true rfl) hd h ?_
      rintro v M97 ⟨r98, rfl, h⟩
      show q_Ex X d 159 (713 + 3) [some (.ref 1003), some (.ref 0), some (.ref 97), some (.int a3)] [.int r98] M97 _
      refine q_aload_n (pc := 716) k159_716 rfl ?_
      refine q_invV (pc := 717) (As := []) (st := [.int r98]) k159_717 lm159_116 ov151 rfl rfl rfl (q_cat rfl) (Nat.le_of_ble_eq_true rfl) hd h ?_
      rintro v M99 ⟨r100, rfl, h⟩
      show q_Ex X d 159 (717 + 3) [some (.ref 1003), some (.ref 0), some (.ref 97), some (.int a3)] [.int r100, .int r98] M99 _
      refine q_icmp_eq (pc := 720) 774 k159_720 (by decide) (fun g => ?_) (fun g => ?_)
      · replace h := h.1 g
        refine q_iinc (pc := 774) (v := a3 + 4) [some (.ref 1003), some (.ref 0), some (.ref 97), some (.int (a3 + 4))] k159_774 rfl rfl rfl (by decide) rfl ?_
        refine q_goto (pc := 777) 18 k159_777 (by decide) ?_
        exact h
      · replace h := h.2 g
        refine q_iconst (pc := 723) (v := 0) k159_723 (by decide) ?_
        exact q_zreturn (pc := 724) k159_724 rfl (by decide) ⟨_, rfl, h⟩
    by_cases g25 : ((X.2 (Int32.toNatClampNeg a3)) &&& 31) = 25
    · have h := e25 g25
      refine q_tsIn (pc := 32) 725 k159_32 (off := 693) (by rw [g25]; decide) (by rw [g25]; decide) (by rw [g25]; rfl) (by decide) ?_
      refine q_aload_n (pc := 725) k159_725 rfl ?_
      refine q_invV (pc := 726) (As := []) (st := []) k159_726 lm159_117 ov69 rfl rfl rfl (q_cat rfl) (Nat.le_of_ble_eq_true rfl) hd h ?_
      rintro v M101 ⟨r102, rfl, h⟩
      show q_Ex X d 159 (726 + 3) [some (.ref 1003), some (.ref 0), some (.ref 97), some (.int a3)] [.int r102] M101 _
      refine q_aload_n (pc := 729) k159_729 rfl ?_
      refine q_invV (pc := 730) (As := []) (st := [.int r102]) k159_730 lm159_120 ov152 rfl rfl rfl (q_cat rfl) (Nat.le_of_ble_eq_true rfl) hd h ?_
      rintro v M103 ⟨r104, rfl, h⟩
      show q_Ex X d 159 (730 + 3) [some (.ref 1003), some (.ref 0), some (.ref 97), some (.int a3)] [.int r104, .int r102] M103 _
      refine q_icmp_eq (pc := 733) 774 k159_733 (by decide) (fun g => ?_) (fun g => ?_)
      · replace h := h.1 g
        refine q_iinc (pc := 774) (v := a3 + 4) [some (.ref 1003), some (.ref 0), some (.ref 97), some (.int (a3 + 4))] k159_774 rfl rfl rfl (by decide) rfl ?_
        refine q_goto (pc := 777) 18 k159_777 (by decide) ?_
        exact h
      · replace h := h.2 g
        refine q_iconst (pc := 736) (v := 0) k159_736 (by decide) ?_
        exact q_zreturn (pc := 737) k159_737 rfl (by decide) ⟨_, rfl, h⟩
    by_cases g26 : ((X.2 (Int32.toNatClampNeg a3)) &&& 31) = 26
    · have h := e26 g26
      refine q_tsIn (pc := 32) 738 k159_32 (off := 706) (by rw [g26]; decide) (by rw [g26]; decide) (by rw [g26]; rfl) (by decide) ?_
      refine q_aload_n (pc := 738) k159_738 rfl ?_
      refine q_invV (pc := 739) (As := []) (st := []) k159_739 lm159_121 ov70 rfl rfl rfl (q_cat rfl) (Nat.le_of_ble_eq_true rfl) hd h ?_
      rintro v M105 ⟨r106, rfl, h⟩
      show q_Ex X d 159 (739 + 3) [some (.ref 1003), some (.ref 0), some (.ref 97), some (.int a3)] [.int r106] M105 _
      refine q_aload_n (pc := 742) k159_742 rfl ?_
      refine q_invV (pc := 743) (As := []) (st := [.int r106]) k159_743 lm159_124 ov153 rfl rfl rfl (q_cat rfl) (Nat.le_of_ble_eq_true rfl) hd h ?_
      rintro v M107 ⟨r108, rfl, h⟩
      show q_Ex X d 159 (743 + 3) [some (.ref 1003), some (.ref 0), some (.ref 97), some (.int a3)] [.int r108, .int r106] M107 _
      refine q_icmp_eq (pc := 746) 774 k159_746 (by decide) (fun g => ?_) (fun g => ?_)
      · replace h := h.1 g
        refine q_iinc (pc := 774) (v := a3 + 4) [some (.ref 1003), some (.ref 0), some (.ref 97), some (.int (a3 + 4))] k159_774 rfl rfl rfl (by decide) rfl ?_
        refine q_goto (pc := 777) 18 k159_777 (by decide) ?_
        exact h
      · replace h := h.2 g
        refine q_iconst (pc := 749) (v := 0) k159_749 (by decide) ?_
        exact q_zreturn (pc := 750) k159_750 rfl (by decide) ⟨_, rfl, h⟩
    by_cases g27 : ((X.2 (Int32.toNatClampNeg a3)) &&& 31) = 27
    · have h := e27 g27
      refine q_tsIn (pc := 32) 751 k159_32 (off := 719) (by rw [g27]; decide) (by rw [g27]; decide) (by rw [g27]; rfl) (by decide) ?_
      refine q_aload_n (pc := 751) k159_751 rfl ?_
      refine q_aload_n (pc := 752) k159_752 rfl ?_
      refine q_iload_n (pc := 753) k159_753 rfl ?_
      refine q_iconst (pc := 754) (v := 1) k159_754 (by decide) ?_
      refine q_iadd (pc := 755) k159_755 ?_
      refine q_raldv (pc := 756) (j := 3) (v := X.2 (Int32.toNatClampNeg (a3 + 1))) k159_756 (by decide) h.1 rfl ?_
      replace h := h.2
      refine q_invV (pc := 757) (As := [.int (X.2 (Int32.toNatClampNeg (a3 + 1)))]) (st := []) k159_757 lm159_125 ov71 rfl rfl rfl (q_cat rfl) (Nat.le_of_ble_eq_true rfl) hd h ?_
      rintro v M109 ⟨r110, rfl, h⟩
      show q_Ex X d 159 (757 + 3) [some (.ref 1003), some (.ref 0), some (.ref 97), some (.int a3)] [.int r110] M109 _
      refine q_aload_n (pc := 760) k159_760 rfl ?_
      refine q_aload_n (pc := 761) k159_761 rfl ?_
      refine q_iload_n (pc := 762) k159_762 rfl ?_
      refine q_iconst (pc := 763) (v := 1) k159_763 (by decide) ?_
      refine q_iadd (pc := 764) k159_764 ?_
      refine q_raldv (pc := 765) (j := 3) (v := X.2 (Int32.toNatClampNeg (a3 + 1))) k159_765 (by decide) h.1 rfl ?_
      replace h := h.2
      refine q_invV (pc := 766) (As := [.int (X.2 (Int32.toNatClampNeg (a3 + 1)))]) (st := [.int r110]) k159_766 lm159_128 ov154 rfl rfl rfl (q_cat rfl) (Nat.le_of_ble_eq_true rfl) hd h ?_
      rintro v M111 ⟨r112, rfl, h⟩
      show q_Ex X d 159 (766 + 3) [some (.ref 1003), some (.ref 0), some (.ref 97), some (.int a3)] [.int r112, .int r110] M111 _
      refine q_icmp_eq (pc := 769) 774 k159_769 (by decide) (fun g => ?_) (fun g => ?_)
      · replace h := h.1 g
        refine q_iinc (pc := 774) (v := a3 + 4) [some (.ref 1003), some (.ref 0), some (.ref 97), some (.int (a3 + 4))] k159_774 rfl rfl rfl (by decide) rfl ?_
        refine q_goto (pc := 777) 18 k159_777 (by decide) ?_
        exact h
      · replace h := h.2 g
        refine q_iconst (pc := 772) (v := 0) k159_772 (by decide) ?_
        exact q_zreturn (pc := 773) k159_773 rfl (by decide) ⟨_, rfl, h⟩
    have h := e999 ⟨g0, g1, g2, g3, g4, g5, g6, g7, g8, g9, g10, g11, g12, g13, g14, g15, g16, g17, g18, g19, g20, g21, g22, g23, g24, g25, g26, g27⟩
    refine q_tsOut (pc := 32) 774 k159_32 (by have i0 := lv_neT g0 (a := 0) rfl; have i1 := lv_neT g1 (a := 1) rfl; have i2 := lv_neT g2 (a := 2) rfl; have i3 := lv_neT g3 (a := 3) rfl; have i4 := lv_neT g4 (a := 4) rfl; have i5 := lv_neT g5 (a := 5) rfl; have i6 := lv_neT g6 (a := 6) rfl; have i7 := lv_neT g7 (a := 7) rfl; have i8 := lv_neT g8 (a := 8) rfl; have i9 := lv_neT g9 (a := 9) rfl; have i10 := lv_neT g10 (a := 10) rfl; have i11 := lv_neT g11 (a := 11) rfl; have i12 := lv_neT g12 (a := 12) rfl; have i13 := lv_neT g13 (a := 13) rfl; have i14 := lv_neT g14 (a := 14) rfl; have i15 := lv_neT g15 (a := 15) rfl; have i16 := lv_neT g16 (a := 16) rfl; have i17 := lv_neT g17 (a := 17) rfl; have i18 := lv_neT g18 (a := 18) rfl; have i19 := lv_neT g19 (a := 19) rfl; have i20 := lv_neT g20 (a := 20) rfl; have i21 := lv_neT g21 (a := 21) rfl; have i22 := lv_neT g22 (a := 22) rfl; have i23 := lv_neT g23 (a := 23) rfl; have i24 := lv_neT g24 (a := 24) rfl; have i25 := lv_neT g25 (a := 25) rfl; have i26 := lv_neT g26 (a := 26) rfl; have i27 := lv_neT g27 (a := 27) rfl; omega) (by decide) ?_
    refine q_iinc (pc := 774) (v := a3 + 4) [some (.ref 1003), some (.ref 0), some (.ref 97), some (.int (a3 + 4))] k159_774 rfl rfl rfl (by decide) rfl ?_
    refine q_goto (pc := 777) 18 k159_777 (by decide) ?_
    exact h
