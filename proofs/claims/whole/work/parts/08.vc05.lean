set_option maxRecDepth 20000 in
theorem vc103 {X : Nat × (Nat → Int32)} {d : Nat} {M : q_M} {K : Int32 → q_M → Prop} (h : q_Ex X d 103 22 [some (.ref 97), some (.int 1), some (.int 0), some (.int 0), some (.int 0), some (.int 0), none] [] (q_set (q_set M 97 7 0) 97 8 0) (q_ri K)) : q_Ci X d 103 [.ref 97] M K := by
  show q_Ex X d 103 0 [some (.ref 97), none, none, none, none, none, none] [] M (q_ri K)
  refine q_aload_n (pc := 0) k103_0 rfl ?_
  refine q_iconst (pc := 1) (v := 0) k103_1 (by decide) ?_
  refine q_putI (pc := 2) k103_2 fp103_84 rfl rfl ?_
  refine q_aload_n (pc := 5) k103_5 rfl ?_
  refine q_iconst (pc := 6) (v := 0) k103_6 (by decide) ?_
  refine q_putI (pc := 7) k103_7 fp103_87 rfl rfl ?_
  refine q_iconst (pc := 10) (v := 1) k103_10 (by decide) ?_
  refine q_istore_n (pc := 11) [some (.ref 97), some (.int 1), none, none, none, none, none] k103_11 rfl (by decide) rfl ?_
  refine q_iconst (pc := 12) (v := 0) k103_12 (by decide) ?_
  refine q_istore_n (pc := 13) [some (.ref 97), some (.int 1), some (.int 0), none, none, none, none] k103_13 rfl (by decide) rfl ?_
  refine q_iconst (pc := 14) (v := 0) k103_14 (by decide) ?_
  refine q_istore_n (pc := 15) [some (.ref 97), some (.int 1), some (.int 0), some (.int 0), none, none, none] k103_15 rfl (by decide) rfl ?_
  refine q_iconst (pc := 16) (v := 0) k103_16 (by decide) ?_
  refine q_istore (pc := 17) [some (.ref 97), some (.int 1), some (.int 0), some (.int 0), some (.int 0), none, none] k103_17 rfl (by decide) rfl ?_
  refine q_iconst (pc := 19) (v := 0) k103_19 (by decide) ?_
  refine q_istore (pc := 20) [some (.ref 97), some (.int 1), some (.int 0), some (.int 0), some (.int 0), some (.int 0), none] k103_20 rfl (by decide) rfl ?_
  exact h
set_option maxRecDepth 20000 in
theorem vc103_p22 {X : Nat × (Nat → Int32)} {d : Nat} (hd : 0 < d) {M : q_M} {a1 a2 a3 a4 a5 : Int32} {K : Int32 → q_M → Prop} (h : (((M 97 6) ≤ a5) → (((a1 < 2) → (K ((-1000) - (M 97 6)) M)) ∧ ((¬ a1 < 2) → (((a2 ≤ a3) → (((¬ (M 97 7) = (M 97 8)) → (K (-2000) M)) ∧ (((M 97 7) = (M 97 8)) → ((((M 97 7) = 1) → (q_Ex X d 103 213 [some (.ref 97), some (.int a1), some (.int a2), none, some (.int a4), some (.int 45), none] [] M (q_ri K))) ∧ ((¬ (M 97 7) = 1) → ((((M 97 7) = 3) → (q_Ex X d 103 213 [some (.ref 97), some (.int a1), some (.int a2), none, some (.int a4), some (.int 45), none] [] M (q_ri K))) ∧ ((¬ (M 97 7) = 3) → ((((M 97 7) = 7) → (q_Ex X d 103 213 [some (.ref 97), some (.int a1), some (.int a2), none, some (.int a4), some (.int 45), none] [] M (q_ri K))) ∧ ((¬ (M 97 7) = 7) → (K (-2000) M)))))))))) ∧ ((¬ a2 ≤ a3) → (K ((-1000) - (M 97 6)) M)))))) ∧ ((¬ (M 97 6) ≤ a5) → (vp_in a5 48 ∧ (((¬ (M 102 (Int32.toNatClampNeg a5)) = 47) → (((¬ a1 = 1) → (((a3 = a2) → (K ((-1000) - a5) M)) ∧ ((¬ a3 = a2) → (vp_in a5 48 ∧ (q_Ci X (d - 1) 102 [.ref 97, .int (M 102 (Int32.toNatClampNeg a5)), .int a4] M (fun r2 M1 => ((¬ r2 = 0) → (q_Ex X d 103 22 [some (.ref 97), some (.int a1), some (.int a2), some (.int (a3 + 1)), some (.int (a4 + 1)), some (.int (a5 + 1)), none] [] M1 (q_ri K))) ∧ ((r2 = 0) → (K ((-1000) - a5) M1)))))))) ∧ ((a1 = 1) → (((a3 = 5) → (K ((-1000) - a5) M)) ∧ ((¬ a3 = 5) → (vp_in a5 48 ∧ (q_Ci X (d - 1) 102 [.ref 97, .int (M 102 (Int32.toNatClampNeg a5)), .int a4] M (fun r4 M3 => ((¬ r4 = 0) → (q_Ex X d 103 22 [some (.ref 97), some (.int a1), some (.int a2), some (.int (a3 + 1)), some (.int (a4 + 1)), some (.int (a5 + 1)), none] [] M3 (q_ri K))) ∧ ((r4 = 0) → (K ((-1000) - a5) M3)))))))))) ∧ (((M 102 (Int32.toNatClampNeg a5)) = 47) → (((¬ a1 = 1) → (((¬ a3 = a2) → (K ((-1000) - a5) M)) ∧ ((a3 = a2) → (((6 ≤ a1) → (K ((-1000) - a5) M)) ∧ ((¬ 6 ≤ a1) → (q_Ex X d 103 22 [some (.ref 97), some (.int (a1 + 1)), some (.int a3), some (.int 0), some (.int a4), some (.int (a5 + 1)), none] [] M (q_ri K))))))) ∧ ((a1 = 1) → (((a3 < 2) → (K ((-1000) - a5) M)) ∧ ((¬ a3 < 2) → (q_Ex X d 103 22 [some (.ref 97), some (.int (a1 + 1)), some (.int a3), some (.int 0), some (.int a4), some (.int (a5 + 1)), none] [] M (q_ri K))))))))))) : q_Ex X d 103 22 [some (.ref 97), some (.int a1), some (.int a2), some (.int a3), some (.int a4), some (.int a5), none] [] M (q_ri K) := by
  refine q_iload (pc := 22) k103_22 rfl ?_
  refine q_aload_n (pc := 24) k103_24 rfl ?_
  refine q_getIv (pc := 25) (v := M 97 6) k103_25 fg103_76 rfl rfl rfl ?_
  refine q_icmp_ge (pc := 28) 150 k103_28 (by decide) (fun g => ?_) (fun g => ?_)
  · replace h := h.1 g
    refine q_iload_n (pc := 150) k103_150 rfl ?_
    refine q_iconst (pc := 151) (v := 2) k103_151 (by decide) ?_
    refine q_icmp_lt (pc := 152) 160 k103_152 (by decide) (fun g => ?_) (fun g => ?_)
    · replace h := h.1 g
      refine q_sipush (pc := 160) (v := (-1000)) k103_160 (by decide) ?_
      refine q_aload_n (pc := 163) k103_163 rfl ?_
      refine q_getIv (pc := 164) (v := M 97 6) k103_164 fg103_76 rfl rfl rfl ?_
      refine q_isub (pc := 167) k103_167 ?_
      exact q_ireturn (pc := 168) k103_168 rfl ⟨_, rfl, h⟩
    · replace h := h.2 g
      refine q_iload_n (pc := 155) k103_155 rfl ?_
      refine q_iload_n (pc := 156) k103_156 rfl ?_
      refine q_icmp_ge (pc := 157) 169 k103_157 (by decide) (fun g => ?_) (fun g => ?_)
      · replace h := h.1 g
        refine q_aload_n (pc := 169) k103_169 rfl ?_
        refine q_getIv (pc := 170) (v := M 97 7) k103_170 fg103_84 rfl rfl rfl ?_
        refine q_aload_n (pc := 173) k103_173 rfl ?_
        refine q_getIv (pc := 174) (v := M 97 8) k103_174 fg103_87 rfl rfl rfl ?_
        refine q_icmp_ne (pc := 177) 205 k103_177 (by decide) (fun g => ?_) (fun g => ?_)
        · replace h := h.1 g
          refine q_sipush (pc := 205) (v := (-2000)) k103_205 (by decide) ?_
          exact q_ireturn (pc := 208) k103_208 rfl ⟨_, rfl, h⟩
        · replace h := h.2 g
          refine q_aload_n (pc := 180) k103_180 rfl ?_
          refine q_getIv (pc := 181) (v := M 97 7) k103_181 fg103_84 rfl rfl rfl ?_
          refine q_iconst (pc := 184) (v := 1) k103_184 (by decide) ?_
          refine q_icmp_eq (pc := 185) 209 k103_185 (by decide) (fun g => ?_) (fun g => ?_)
          · replace h := h.1 g
            refine q_bipush (pc := 209) (v := 45) k103_209 (by decide) ?_
            refine q_istore (pc := 211) [some (.ref 97), some (.int a1), some (.int a2), some (.int a3), some (.int a4), some (.int 45), none] k103_211 rfl (by decide) rfl ?_
            exact q_forget [some (.ref 97), some (.int a1), some (.int a2), none, some (.int a4), some (.int 45), none] (q_subOk (And.intro rfl (And.intro rfl (And.intro rfl (And.intro rfl (And.intro rfl (trivial))))))) h
          · replace h := h.2 g
            refine q_aload_n (pc := 188) k103_188 rfl ?_
            refine q_getIv (pc := 189) (v := M 97 7) k103_189 fg103_84 rfl rfl rfl ?_
            refine q_iconst (pc := 192) (v := 3) k103_192 (by decide) ?_
            refine q_icmp_eq (pc := 193) 209 k103_193 (by decide) (fun g => ?_) (fun g => ?_)
            · replace h := h.1 g
              refine q_bipush (pc := 209) (v := 45) k103_209 (by decide) ?_
              refine q_istore (pc := 211) [some (.ref 97), some (.int a1), some (.int a2), some (.int a3), some (.int a4), some (.int 45), none] k103_211 rfl (by decide) rfl ?_
              exact q_forget [some (.ref 97), some (.int a1), some (.int a2), none, some (.int a4), some (.int 45), none] (q_subOk (And.intro rfl (And.intro rfl (And.intro rfl (And.intro rfl (And.intro rfl (trivial))))))) h
            · replace h := h.2 g
              refine q_aload_n (pc := 196) k103_196 rfl ?_
              refine q_getIv (pc := 197) (v := M 97 7) k103_197 fg103_84 rfl rfl rfl ?_
              refine q_bipush (pc := 200) (v := 7) k103_200 (by decide) ?_
              refine q_icmp_eq (pc := 202) 209 k103_202 (by decide) (fun g => ?_) (fun g => ?_)
              · replace h := h.1 g
                refine q_bipush (pc := 209) (v := 45) k103_209 (by decide) ?_
                refine q_istore (pc := 211) [some (.ref 97), some (.int a1), some (.int a2), some (.int a3), some (.int a4), some (.int 45), none] k103_211 rfl (by decide) rfl ?_
                exact q_forget [some (.ref 97), some (.int a1), some (.int a2), none, some (.int a4), some (.int 45), none] (q_subOk (And.intro rfl (And.intro rfl (And.intro rfl (And.intro rfl (And.intro rfl (trivial))))))) h
              · replace h := h.2 g
                refine q_sipush (pc := 205) (v := (-2000)) k103_205 (by decide) ?_
                exact q_ireturn (pc := 208) k103_208 rfl ⟨_, rfl, h⟩
      · replace h := h.2 g
        refine q_sipush (pc := 160) (v := (-1000)) k103_160 (by decide) ?_
        refine q_aload_n (pc := 163) k103_163 rfl ?_
        refine q_getIv (pc := 164) (v := M 97 6) k103_164 fg103_76 rfl rfl rfl ?_
        refine q_isub (pc := 167) k103_167 ?_
        exact q_ireturn (pc := 168) k103_168 rfl ⟨_, rfl, h⟩
  · replace h := h.2 g
    refine q_aload_n (pc := 31) k103_31 rfl ?_
    refine q_getR (pc := 32) k103_32 fg103_22 rfl rfl ?_
    refine q_iload (pc := 35) k103_35 rfl ?_
    refine q_ialdv (pc := 37) (v := M 102 (Int32.toNatClampNeg a5)) k103_37 rfl h.1 rfl ?_
    replace h := h.2
    refine q_bipush (pc := 38) (v := 47) k103_38 (by decide) ?_
    refine q_icmp_ne (pc := 40) 101 k103_40 (by decide) (fun g => ?_) (fun g => ?_)
    · replace h := h.1 g
      refine q_iload_n (pc := 101) k103_101 rfl ?_
      refine q_iload_n (pc := 102) k103_102 rfl ?_
      refine q_iconst (pc := 103) (v := 1) k103_103 (by decide) ?_
      refine q_icmp_ne (pc := 104) 111 k103_104 (by decide) (fun g => ?_) (fun g => ?_)
      · replace h := h.1 g
        refine q_iload_n (pc := 111) k103_111 rfl ?_
        refine q_icmp_eq (pc := 112) 131 k103_112 (by decide) (fun g => ?_) (fun g => ?_)
        · replace h := h.1 g
          refine q_sipush (pc := 131) (v := (-1000)) k103_131 (by decide) ?_
          refine q_iload (pc := 134) k103_134 rfl ?_
          refine q_isub (pc := 136) k103_136 ?_
          exact q_ireturn (pc := 137) k103_137 rfl ⟨_, rfl, h⟩
        · replace h := h.2 g
          refine q_aload_n (pc := 115) k103_115 rfl ?_
          refine q_aload_n (pc := 116) k103_116 rfl ?_
          refine q_getR (pc := 117) k103_117 fg103_22 rfl rfl ?_
          refine q_iload (pc := 120) k103_120 rfl ?_
          refine q_ialdv (pc := 122) (v := M 102 (Int32.toNatClampNeg a5)) k103_122 rfl h.1 rfl ?_
          replace h := h.2
          refine q_iload (pc := 123) k103_123 rfl ?_
          refine q_invV (pc := 125) (As := [.int (M 102 (Int32.toNatClampNeg a5)), .int a4]) (st := []) k103_125 lm103_90 ov102 rfl rfl rfl (q_cat rfl) (Nat.le_of_ble_eq_true rfl) hd h ?_
          rintro v M1 ⟨r2, rfl, h⟩
          show q_Ex X d 103 (125 + 3) [some (.ref 97), some (.int a1), some (.int a2), some (.int a3), some (.int a4), some (.int a5), none] [.int r2] M1 _
          refine q_if_ne (pc := 128) 138 k103_128 (by decide) (fun g => ?_) (fun g => ?_)
          · replace h := h.1 g
            refine q_iinc (pc := 138) (v := a3 + 1) [some (.ref 97), some (.int a1), some (.int a2), some (.int (a3 + 1)), some (.int a4), some (.int a5), none] k103_138 rfl rfl rfl (by decide) rfl ?_
            refine q_iinc (pc := 141) (v := a4 + 1) [some (.ref 97), some (.int a1), some (.int a2), some (.int (a3 + 1)), some (.int (a4 + 1)), some (.int a5), none] k103_141 rfl rfl rfl (by decide) rfl ?_
            refine q_iinc (pc := 144) (v := a5 + 1) [some (.ref 97), some (.int a1), some (.int a2), some (.int (a3 + 1)), some (.int (a4 + 1)), some (.int (a5 + 1)), none] k103_144 rfl rfl rfl (by decide) rfl ?_
            refine q_goto (pc := 147) 22 k103_147 (by decide) ?_
            exact h
          · replace h := h.2 g
            refine q_sipush (pc := 131) (v := (-1000)) k103_131 (by decide) ?_
            refine q_iload (pc := 134) k103_134 rfl ?_
            refine q_isub (pc := 136) k103_136 ?_
            exact q_ireturn (pc := 137) k103_137 rfl ⟨_, rfl, h⟩
      · replace h := h.2 g
        refine q_iconst (pc := 107) (v := 5) k103_107 (by decide) ?_
        refine q_goto (pc := 108) 112 k103_108 (by decide) ?_
        refine q_icmp_eq (pc := 112) 131 k103_112 (by decide) (fun g => ?_) (fun g => ?_)
        · replace h := h.1 g
          refine q_sipush (pc := 131) (v := (-1000)) k103_131 (by decide) ?_
          refine q_iload (pc := 134) k103_134 rfl ?_
          refine q_isub (pc := 136) k103_136 ?_
          exact q_ireturn (pc := 137) k103_137 rfl ⟨_, rfl, h⟩
        · replace h := h.2 g
          refine q_aload_n (pc := 115) k103_115 rfl ?_
          refine q_aload_n (pc := 116) k103_116 rfl ?_
          refine q_getR (pc := 117) k103_117 fg103_22 rfl rfl ?_
          refine q_iload (pc := 120) k103_120 rfl ?_
          refine q_ialdv (pc := 122) (v := M 102 (Int32.toNatClampNeg a5)) k103_122 rfl h.1 rfl ?_
          replace h := h.2
          refine q_iload (pc := 123) k103_123 rfl ?_
          refine q_invV (pc := 125) (As := [.int (M 102 (Int32.toNatClampNeg a5)), .int a4]) (st := []) k103_125 lm103_90 ov102 rfl rfl rfl (q_cat rfl) (Nat.le_of_ble_eq_true rfl) hd h ?_
          rintro v M3 ⟨r4, rfl, h⟩
          show q_Ex X d 103 (125 + 3) [some (.ref 97), some (.int a1), some (.int a2), some (.int a3), some (.int a4), some (.int a5), none] [.int r4] M3 _
          refine q_if_ne (pc := 128) 138 k103_128 (by decide) (fun g => ?_) (fun g => ?_)
          · replace h := h.1 g
            refine q_iinc (pc := 138) (v := a3 + 1) [some (.ref 97), some (.int a1), some (.int a2), some (.int (a3 + 1)), some (.int a4), some (.int a5), none] k103_138 rfl rfl rfl (by decide) rfl ?_
            refine q_iinc (pc := 141) (v := a4 + 1) [some (.ref 97), some (.int a1), some (.int a2), some (.int (a3 + 1)), some (.int (a4 + 1)), some (.int a5), none] k103_141 rfl rfl rfl (by decide) rfl ?_
            refine q_iinc (pc := 144) (v := a5 + 1) [some (.ref 97), some (.int a1), some (.int a2), some (.int (a3 + 1)), some (.int (a4 + 1)), some (.int (a5 + 1)), none] k103_144 rfl rfl rfl (by decide) rfl ?_
            refine q_goto (pc := 147) 22 k103_147 (by decide) ?_
            exact h
          · replace h := h.2 g
            refine q_sipush (pc := 131) (v := (-1000)) k103_131 (by decide) ?_
            refine q_iload (pc := 134) k103_134 rfl ?_
            refine q_isub (pc := 136) k103_136 ?_
            exact q_ireturn (pc := 137) k103_137 rfl ⟨_, rfl, h⟩
    · replace h := h.2 g
      refine q_iload_n (pc := 43) k103_43 rfl ?_
      refine q_iconst (pc := 44) (v := 1) k103_44 (by decide) ?_
      refine q_icmp_ne (pc := 45) 61 k103_45 (by decide) (fun g => ?_) (fun g => ?_)
      · replace h := h.1 g
        refine q_iload_n (pc := 61) k103_61 rfl ?_
        refine q_iload_n (pc := 62) k103_62 rfl ?_
        refine q_icmp_ne (pc := 63) 76 k103_63 (by decide) (fun g => ?_) (fun g => ?_)
        · replace h := h.1 g
          refine q_iconst (pc := 76) (v := 0) k103_76 (by decide) ?_
          refine q_istore (pc := 77) [some (.ref 97), some (.int a1), some (.int a2), some (.int a3), some (.int a4), some (.int a5), some (.int 0)] k103_77 rfl (by decide) rfl ?_
          refine q_iload (pc := 79) k103_79 rfl ?_
          refine q_if_ne (pc := 81) 91 k103_81 (by decide) (fun g => absurd g (by decide)) (fun _ => ?_)
          refine q_sipush (pc := 84) (v := (-1000)) k103_84 (by decide) ?_
          refine q_iload (pc := 87) k103_87 rfl ?_
          refine q_isub (pc := 89) k103_89 ?_
          exact q_ireturn (pc := 90) k103_90 rfl ⟨_, rfl, h⟩
        · replace h := h.2 g
          refine q_iload_n (pc := 66) k103_66 rfl ?_
          refine q_bipush (pc := 67) (v := 6) k103_67 (by decide) ?_
          refine q_icmp_ge (pc := 69) 76 k103_69 (by decide) (fun g => ?_) (fun g => ?_)
          · replace h := h.1 g
            refine q_iconst (pc := 76) (v := 0) k103_76 (by decide) ?_
            refine q_istore (pc := 77) [some (.ref 97), some (.int a1), some (.int a2), some (.int a3), some (.int a4), some (.int a5), some (.int 0)] k103_77 rfl (by decide) rfl ?_
            refine q_iload (pc := 79) k103_79 rfl ?_
            refine q_if_ne (pc := 81) 91 k103_81 (by decide) (fun g => absurd g (by decide)) (fun _ => ?_)
            refine q_sipush (pc := 84) (v := (-1000)) k103_84 (by decide) ?_
            refine q_iload (pc := 87) k103_87 rfl ?_
            refine q_isub (pc := 89) k103_89 ?_
            exact q_ireturn (pc := 90) k103_90 rfl ⟨_, rfl, h⟩
          · replace h := h.2 g
            refine q_iconst (pc := 72) (v := 1) k103_72 (by decide) ?_
            refine q_goto (pc := 73) 77 k103_73 (by decide) ?_
            refine q_istore (pc := 77) [some (.ref 97), some (.int a1), some (.int a2), some (.int a3), some (.int a4), some (.int a5), some (.int 1)] k103_77 rfl (by decide) rfl ?_
            refine q_iload (pc := 79) k103_79 rfl ?_
            refine q_if_ne (pc := 81) 91 k103_81 (by decide) (fun _ => ?_) (fun g => absurd g (by decide))
            refine q_iload_n (pc := 91) k103_91 rfl ?_
            refine q_istore_n (pc := 92) [some (.ref 97), some (.int a1), some (.int a3), some (.int a3), some (.int a4), some (.int a5), some (.int 1)] k103_92 rfl (by decide) rfl ?_
            refine q_iconst (pc := 93) (v := 0) k103_93 (by decide) ?_
            refine q_istore_n (pc := 94) [some (.ref 97), some (.int a1), some (.int a3), some (.int 0), some (.int a4), some (.int a5), some (.int 1)] k103_94 rfl (by decide) rfl ?_
            refine q_iinc (pc := 95) (v := a1 + 1) [some (.ref 97), some (.int (a1 + 1)), some (.int a3), some (.int 0), some (.int a4), some (.int a5), some (.int 1)] k103_95 rfl rfl rfl (by decide) rfl ?_
            refine q_goto (pc := 98) 144 k103_98 (by decide) ?_
            refine q_iinc (pc := 144) (v := a5 + 1) [some (.ref 97), some (.int (a1 + 1)), some (.int a3), some (.int 0), some (.int a4), some (.int (a5 + 1)), some (.int 1)] k103_144 rfl rfl rfl (by decide) rfl ?_
            refine q_goto (pc := 147) 22 k103_147 (by decide) ?_
            exact q_forget [some (.ref 97), some (.int (a1 + 1)), some (.int a3), some (.int 0), some (.int a4), some (.int (a5 + 1)), none] (q_subOk (And.intro rfl (And.intro rfl (And.intro rfl (And.intro rfl (And.intro rfl (And.intro rfl (trivial)))))))) h
      · replace h := h.2 g
        refine q_iload_n (pc := 48) k103_48 rfl ?_
        refine q_iconst (pc := 49) (v := 2) k103_49 (by decide) ?_
        refine q_icmp_lt (pc := 50) 57 k103_50 (by decide) (fun g => ?_) (fun g => ?_)
        · replace h := h.1 g
          refine q_iconst (pc := 57) (v := 0) k103_57 (by decide) ?_
          refine q_goto (pc := 58) 77 k103_58 (by decide) ?_
          refine q_istore (pc := 77) [some (.ref 97), some (.int a1), some (.int a2), some (.int a3), some (.int a4), some (.int a5), some (.int 0)] k103_77 rfl (by decide) rfl ?_
          refine q_iload (pc := 79) k103_79 rfl ?_
          refine q_if_ne (pc := 81) 91 k103_81 (by decide) (fun g => absurd g (by decide)) (fun _ => ?_)
          refine q_sipush (pc := 84) (v := (-1000)) k103_84 (by decide) ?_
          refine q_iload (pc := 87) k103_87 rfl ?_
          refine q_isub (pc := 89) k103_89 ?_
          exact q_ireturn (pc := 90) k103_90 rfl ⟨_, rfl, h⟩
        · replace h := h.2 g
          refine q_iconst (pc := 53) (v := 1) k103_53 (by decide) ?_
          refine q_goto (pc := 54) 77 k103_54 (by decide) ?_
          refine q_istore (pc := 77) [some (.ref 97), some (.int a1), some (.int a2), some (.int a3), some (.int a4), some (.int a5), some (.int 1)] k103_77 rfl (by decide) rfl ?_
          refine q_iload (pc := 79) k103_79 rfl ?_
          refine q_if_ne (pc := 81) 91 k103_81 (by decide) (fun _ => ?_) (fun g => absurd g (by decide))
          refine q_iload_n (pc := 91) k103_91 rfl ?_
          refine q_istore_n (pc := 92) [some (.ref 97), some (.int a1), some (.int a3), some (.int a3), some (.int a4), some (.int a5), some (.int 1)] k103_92 rfl (by decide) rfl ?_
          refine q_iconst (pc := 93) (v := 0) k103_93 (by decide) ?_
          refine q_istore_n (pc := 94) [some (.ref 97), some (.int a1), some (.int a3), some (.int 0), some (.int a4), some (.int a5), some (.int 1)] k103_94 rfl (by decide) rfl ?_
          refine q_iinc (pc := 95) (v := a1 + 1) [some (.ref 97), some (.int (a1 + 1)), some (.int a3), some (.int 0), some (.int a4), some (.int a5), some (.int 1)] k103_95 rfl rfl rfl (by decide) rfl ?_
          refine q_goto (pc := 98) 144 k103_98 (by decide) ?_
          refine q_iinc (pc := 144) (v := a5 + 1) [some (.ref 97), some (.int (a1 + 1)), some (.int a3), some (.int 0), some (.int a4), some (.int (a5 + 1)), some (.int 1)] k103_144 rfl rfl rfl (by decide) rfl ?_
          refine q_goto (pc := 147) 22 k103_147 (by decide) ?_
          exact q_forget [some (.ref 97), some (.int (a1 + 1)), some (.int a3), some (.int 0), some (.int a4), some (.int (a5 + 1)), none] (q_subOk (And.intro rfl (And.intro rfl (And.intro rfl (And.intro rfl (And.intro rfl (And.intro rfl (trivial)))))))) h
set_option maxRecDepth 20000 in
theorem vc103_p213 {X : Nat × (Nat → Int32)} {d : Nat} {M : q_M} {a1 a2 a4 a5 : Int32} {K : Int32 → q_M → Prop} (h : (((45 + (3 * a4)) ≤ a5) → (((¬ (M 97 7) = 1) → (((¬ (M 97 7) = 3) → (q_Ex X d 103 301 [some (.ref 97), none, none, none, some (.int a4), some (.int 0), none] [] (q_set (q_set (q_set (q_set M 99 0 a1) 99 1 a2) 99 2 3) 99 7 0) (q_ri K))) ∧ (((M 97 7) = 3) → (q_Ex X d 103 301 [some (.ref 97), none, none, none, some (.int a4), some (.int 0), none] [] (q_set (q_set (q_set (q_set M 99 0 a1) 99 1 a2) 99 2 2) 99 7 0) (q_ri K))))) ∧ (((M 97 7) = 1) → (q_Ex X d 103 301 [some (.ref 97), none, none, none, some (.int a4), some (.int 0), none] [] (q_set (q_set (q_set (q_set M 99 0 a1) 99 1 a2) 99 2 1) 99 7 0) (q_ri K))))) ∧ ((¬ (45 + (3 * a4)) ≤ a5) → (vp_in a5 135 ∧ (vp_in a5 135 ∧ (q_Ex X d 103 213 [some (.ref 97), some (.int a1), some (.int a2), none, some (.int a4), some (.int (a5 + 1)), none] [] (q_set M 99 (Int32.toNatClampNeg a5) (M 101 (Int32.toNatClampNeg a5))) (q_ri K)))))) : q_Ex X d 103 213 [some (.ref 97), some (.int a1), some (.int a2), none, some (.int a4), some (.int a5), none] [] M (q_ri K) := by
  refine q_iload (pc := 213) k103_213 rfl ?_
  refine q_bipush (pc := 215) (v := 45) k103_215 (by decide) ?_
  refine q_iconst (pc := 217) (v := 3) k103_217 (by decide) ?_
  refine q_iload (pc := 218) k103_218 rfl ?_
  refine q_imul (pc := 220) k103_220 ?_
  refine q_iadd (pc := 221) k103_221 ?_
  refine q_icmp_ge (pc := 222) 245 k103_222 (by decide) (fun g => ?_) (fun g => ?_)
  · replace h := h.1 g
    refine q_aload_n (pc := 245) k103_245 rfl ?_
    refine q_getR (pc := 246) k103_246 fg103_13 rfl rfl ?_
    refine q_iconst (pc := 249) (v := 0) k103_249 (by decide) ?_
    refine q_iload_n (pc := 250) k103_250 rfl ?_
    refine q_iastv (pc := 251) (k := 0) k103_251 rfl (by decide) rfl ?_
    refine q_aload_n (pc := 252) k103_252 rfl ?_
    refine q_getR (pc := 253) k103_253 fg103_13 rfl rfl ?_
    refine q_iconst (pc := 256) (v := 1) k103_256 (by decide) ?_
    refine q_iload_n (pc := 257) k103_257 rfl ?_
    refine q_iastv (pc := 258) (k := 1) k103_258 rfl (by decide) rfl ?_
    refine q_aload_n (pc := 259) k103_259 rfl ?_
    refine q_getR (pc := 260) k103_260 fg103_13 rfl rfl ?_
    refine q_iconst (pc := 263) (v := 2) k103_263 (by decide) ?_
    refine q_aload_n (pc := 264) k103_264 rfl ?_
    refine q_getIv (pc := 265) (v := M 97 7) k103_265 fg103_84 rfl rfl rfl ?_
    refine q_iconst (pc := 268) (v := 1) k103_268 (by decide) ?_
    refine q_icmp_ne (pc := 269) 276 k103_269 (by decide) (fun g => ?_) (fun g => ?_)
    · replace h := h.1 g
      refine q_aload_n (pc := 276) k103_276 rfl ?_
      refine q_getIv (pc := 277) (v := M 97 7) k103_277 fg103_84 rfl rfl rfl ?_
      refine q_iconst (pc := 280) (v := 3) k103_280 (by decide) ?_
      refine q_icmp_ne (pc := 281) 288 k103_281 (by decide) (fun g => ?_) (fun g => ?_)
      · replace h := h.1 g
        refine q_iconst (pc := 288) (v := 3) k103_288 (by decide) ?_
        refine q_iastv (pc := 289) (k := 2) k103_289 rfl (by decide) rfl ?_
        refine q_aload_n (pc := 290) k103_290 rfl ?_
        refine q_getR (pc := 291) k103_291 fg103_13 rfl rfl ?_
        refine q_bipush (pc := 294) (v := 7) k103_294 (by decide) ?_
        refine q_iconst (pc := 296) (v := 0) k103_296 (by decide) ?_
        refine q_iastv (pc := 297) (k := 7) k103_297 rfl (by decide) rfl ?_
        refine q_iconst (pc := 298) (v := 0) k103_298 (by decide) ?_
        refine q_istore (pc := 299) [some (.ref 97), some (.int a1), some (.int a2), none, some (.int a4), some (.int 0), none] k103_299 rfl (by decide) rfl ?_
        exact q_forget [some (.ref 97), none, none, none, some (.int a4), some (.int 0), none] (q_subOk (And.intro rfl (And.intro rfl (And.intro rfl (trivial))))) h
      · replace h := h.2 g
        refine q_iconst (pc := 284) (v := 2) k103_284 (by decide) ?_
        refine q_goto (pc := 285) 289 k103_285 (by decide) ?_
        refine q_iastv (pc := 289) (k := 2) k103_289 rfl (by decide) rfl ?_
        refine q_aload_n (pc := 290) k103_290 rfl ?_
        refine q_getR (pc := 291) k103_291 fg103_13 rfl rfl ?_
        refine q_bipush (pc := 294) (v := 7) k103_294 (by decide) ?_
        refine q_iconst (pc := 296) (v := 0) k103_296 (by decide) ?_
        refine q_iastv (pc := 297) (k := 7) k103_297 rfl (by decide) rfl ?_
        refine q_iconst (pc := 298) (v := 0) k103_298 (by decide) ?_
        refine q_istore (pc := 299) [some (.ref 97), some (.int a1), some (.int a2), none, some (.int a4), some (.int 0), none] k103_299 rfl (by decide) rfl ?_
        exact q_forget [some (.ref 97), none, none, none, some (.int a4), some (.int 0), none] (q_subOk (And.intro rfl (And.intro rfl (And.intro rfl (trivial))))) h
    · replace h := h.2 g
      refine q_iconst (pc := 272) (v := 1) k103_272 (by decide) ?_
      refine q_goto (pc := 273) 289 k103_273 (by decide) ?_
      refine q_iastv (pc := 289) (k := 2) k103_289 rfl (by decide) rfl ?_
      refine q_aload_n (pc := 290) k103_290 rfl ?_
      refine q_getR (pc := 291) k103_291 fg103_13 rfl rfl ?_
      refine q_bipush (pc := 294) (v := 7) k103_294 (by decide) ?_
      refine q_iconst (pc := 296) (v := 0) k103_296 (by decide) ?_
      refine q_iastv (pc := 297) (k := 7) k103_297 rfl (by decide) rfl ?_
      refine q_iconst (pc := 298) (v := 0) k103_298 (by decide) ?_
      refine q_istore (pc := 299) [some (.ref 97), some (.int a1), some (.int a2), none, some (.int a4), some (.int 0), none] k103_299 rfl (by decide) rfl ?_
      exact q_forget [some (.ref 97), none, none, none, some (.int a4), some (.int 0), none] (q_subOk (And.intro rfl (And.intro rfl (And.intro rfl (trivial))))) h
  · replace h := h.2 g
    refine q_aload_n (pc := 225) k103_225 rfl ?_
    refine q_getR (pc := 226) k103_226 fg103_13 rfl rfl ?_
    refine q_iload (pc := 229) k103_229 rfl ?_
    refine q_aload_n (pc := 231) k103_231 rfl ?_
    refine q_getR (pc := 232) k103_232 fg103_19 rfl rfl ?_
    refine q_iload (pc := 235) k103_235 rfl ?_
    refine q_ialdv (pc := 237) (v := M 101 (Int32.toNatClampNeg a5)) k103_237 rfl h.1 rfl ?_
    replace h := h.2
    refine q_iastv (pc := 238) (k := (Int32.toNatClampNeg a5)) k103_238 rfl h.1 rfl ?_
    replace h := h.2
    refine q_iinc (pc := 239) (v := a5 + 1) [some (.ref 97), some (.int a1), some (.int a2), none, some (.int a4), some (.int (a5 + 1)), none] k103_239 rfl rfl rfl (by decide) rfl ?_
    refine q_goto (pc := 242) 213 k103_242 (by decide) ?_
    exact h
set_option maxRecDepth 20000 in
theorem vc103_p301 {X : Nat × (Nat → Int32)} {d : Nat} {M : q_M} {a4 a5 : Int32} {K : Int32 → q_M → Prop} (h : ((3 ≤ a5) → (K a4 M)) ∧ ((¬ 3 ≤ a5) → (vp_in (4 + a5) 135 ∧ (vp_in (12 + a5) 135 ∧ (q_Ex X d 103 301 [some (.ref 97), none, none, none, some (.int a4), some (.int (a5 + 1)), none] [] (q_set (q_set M 99 (Int32.toNatClampNeg (4 + a5)) a5) 99 (Int32.toNatClampNeg (12 + a5)) 0) (q_ri K)))))) : q_Ex X d 103 301 [some (.ref 97), none, none, none, some (.int a4), some (.int a5), none] [] M (q_ri K) := by
  refine q_iload (pc := 301) k103_301 rfl ?_
  refine q_iconst (pc := 303) (v := 3) k103_303 (by decide) ?_
  refine q_icmp_ge (pc := 304) 335 k103_304 (by decide) (fun g => ?_) (fun g => ?_)
  · replace h := h.1 g
    refine q_iload (pc := 335) k103_335 rfl ?_
    exact q_ireturn (pc := 337) k103_337 rfl ⟨_, rfl, h⟩
  · replace h := h.2 g
    refine q_aload_n (pc := 307) k103_307 rfl ?_
    refine q_getR (pc := 308) k103_308 fg103_13 rfl rfl ?_
    refine q_iconst (pc := 311) (v := 4) k103_311 (by decide) ?_
    refine q_iload (pc := 312) k103_312 rfl ?_
    refine q_iadd (pc := 314) k103_314 ?_
    refine q_iload (pc := 315) k103_315 rfl ?_
    refine q_iastv (pc := 317) (k := (Int32.toNatClampNeg (4 + a5))) k103_317 rfl h.1 rfl ?_
    replace h := h.2
    refine q_aload_n (pc := 318) k103_318 rfl ?_
    refine q_getR (pc := 319) k103_319 fg103_13 rfl rfl ?_
    refine q_bipush (pc := 322) (v := 12) k103_322 (by decide) ?_
    refine q_iload (pc := 324) k103_324 rfl ?_
    refine q_iadd (pc := 326) k103_326 ?_
    refine q_iconst (pc := 327) (v := 0) k103_327 (by decide) ?_
    refine q_iastv (pc := 328) (k := (Int32.toNatClampNeg (12 + a5))) k103_328 rfl h.1 rfl ?_
    replace h := h.2
    refine q_iinc (pc := 329) (v := a5 + 1) [some (.ref 97), none, none, none, some (.int a4), some (.int (a5 + 1)), none] k103_329 rfl rfl rfl (by decide) rfl ?_
    refine q_goto (pc := 332) 301 k103_332 (by decide) ?_
    exact h
set_option maxRecDepth 20000 in
theorem vc104 {X : Nat × (Nat → Int32)} {d : Nat} (hd : 0 < d) {M : q_M} {K : Int32 → q_M → Prop} (h : q_Ci X (d - 1) 103 [.ref 97] M (fun r2 M1 => K r2 (q_set M1 97 6 0))) : q_Ci X d 104 [.ref 97] M K := by
  show q_Ex X d 104 0 [some (.ref 97), none] [] M (q_ri K)
  refine q_aload_n (pc := 0) k104_0 rfl ?_
  refine q_invV (pc := 1) (As := []) (st := []) k104_1 lm104_93 ov103 rfl rfl rfl (q_cat rfl) (Nat.le_of_ble_eq_true rfl) hd h ?_
  rintro v M1 ⟨r2, rfl, h⟩
  show q_Ex X d 104 (1 + 3) [some (.ref 97), none] [.int r2] M1 _
  refine q_istore_n (pc := 4) [some (.ref 97), some (.int r2)] k104_4 rfl (by decide) rfl ?_
  refine q_aload_n (pc := 5) k104_5 rfl ?_
  refine q_iconst (pc := 6) (v := 0) k104_6 (by decide) ?_
  refine q_putI (pc := 7) k104_7 fp104_76 rfl rfl ?_
  refine q_iload_n (pc := 10) k104_10 rfl ?_
  exact q_ireturn (pc := 11) k104_11 rfl ⟨_, rfl, h⟩
set_option maxRecDepth 20000 in
theorem vc105 {X : Nat × (Nat → Int32)} {d : Nat} (hd : 0 < d) {M : q_M} {a1 a2 : Int32} {K : Int32 → q_M → Prop} (h : q_Ci X (d - 1) 96 [.ref 97, .int a1] M (fun r2 M1 => ((¬ r2 = 0) → (q_Ci X (d - 1) 92 [.int a2, .int 3] M1 (fun r4 M3 => ((r4 = 0) → (q_Ci X (d - 1) 91 [.ref 97, .int (-2)] M3 (fun r6 M5 => K r6 M5))) ∧ ((¬ r4 = 0) → (vp_in ((45 + (3 * a1)) + a2) 135 ∧ (K (M3 99 (Int32.toNatClampNeg ((45 + (3 * a1)) + a2))) M3)))))) ∧ ((r2 = 0) → (q_Ci X (d - 1) 91 [.ref 97, .int (-1)] M1 (fun r8 M7 => K r8 M7))))) : q_Ci X d 105 [.ref 97, .int a1, .int a2] M K := by
  show q_Ex X d 105 0 [some (.ref 97), some (.int a1), some (.int a2)] [] M (q_ri K)
  refine q_aload_n (pc := 0) k105_0 rfl ?_
  refine q_iload_n (pc := 1) k105_1 rfl ?_
  refine q_invV (pc := 2) (As := [.int a1]) (st := []) k105_2 lm105_96 ov96 rfl rfl rfl (q_cat rfl) (Nat.le_of_ble_eq_true rfl) hd h ?_
  rintro v M1 ⟨r2, rfl, h⟩
  show q_Ex X d 105 (2 + 3) [some (.ref 97), some (.int a1), some (.int a2)] [.int r2] M1 _
  refine q_if_ne (pc := 5) 16 k105_5 (by decide) (fun g => ?_) (fun g => ?_)
  · replace h := h.1 g
    refine q_iload_n (pc := 16) k105_16 rfl ?_
    refine q_iconst (pc := 17) (v := 3) k105_17 (by decide) ?_
    refine q_invS (pc := 18) (As := [.int a2, .int 3]) (st := []) k105_18 lm105_68 os92 rfl rfl (q_cat rfl) (Nat.le_of_ble_eq_true rfl) hd h ?_
    rintro v M3 ⟨r4, rfl, h⟩
    show q_Ex X d 105 (18 + 3) [some (.ref 97), some (.int a1), some (.int a2)] [.int r4] M3 _
    refine q_if_eq (pc := 21) 40 k105_21 (by decide) (fun g => ?_) (fun g => ?_)
    · replace h := h.1 g
      refine q_aload_n (pc := 40) k105_40 rfl ?_
      refine q_bipush (pc := 41) (v := (-2)) k105_41 (by decide) ?_
      refine q_invV (pc := 43) (As := [.int (-2)]) (st := []) k105_43 lm105_80 ov91 rfl rfl rfl (q_cat rfl) (Nat.le_of_ble_eq_true rfl) hd h ?_
      rintro v M5 ⟨r6, rfl, h⟩
      show q_Ex X d 105 (43 + 3) [some (.ref 97), some (.int a1), some (.int a2)] [.int r6] M5 _
      exact q_ireturn (pc := 46) k105_46 rfl ⟨_, rfl, h⟩
    · replace h := h.2 g
      refine q_aload_n (pc := 24) k105_24 rfl ?_
      refine q_getR (pc := 25) k105_25 fg105_13 rfl rfl ?_
      refine q_bipush (pc := 28) (v := 45) k105_28 (by decide) ?_
      refine q_iconst (pc := 30) (v := 3) k105_30 (by decide) ?_
      refine q_iload_n (pc := 31) k105_31 rfl ?_
      refine q_imul (pc := 32) k105_32 ?_
      refine q_iadd (pc := 33) k105_33 ?_
      refine q_iload_n (pc := 34) k105_34 rfl ?_
      refine q_iadd (pc := 35) k105_35 ?_
      refine q_ialdv (pc := 36) (v := M3 99 (Int32.toNatClampNeg ((45 + (3 * a1)) + a2))) k105_36 rfl h.1 rfl ?_
      replace h := h.2
      refine q_goto (pc := 37) 46 k105_37 (by decide) ?_
      exact q_ireturn (pc := 46) k105_46 rfl ⟨_, rfl, h⟩
  · replace h := h.2 g
    refine q_aload_n (pc := 8) k105_8 rfl ?_
    refine q_iconst (pc := 9) (v := (-1)) k105_9 (by decide) ?_
    refine q_invV (pc := 10) (As := [.int (-1)]) (st := []) k105_10 lm105_80 ov91 rfl rfl rfl (q_cat rfl) (Nat.le_of_ble_eq_true rfl) hd h ?_
    rintro v M7 ⟨r8, rfl, h⟩
    show q_Ex X d 105 (10 + 3) [some (.ref 97), some (.int a1), some (.int a2)] [.int r8] M7 _
    refine q_goto (pc := 13) 46 k105_13 (by decide) ?_
    exact q_ireturn (pc := 46) k105_46 rfl ⟨_, rfl, h⟩
set_option maxRecDepth 20000 in
theorem vc106 {X : Nat × (Nat → Int32)} {d : Nat} (hd : 0 < d) {M : q_M} {a1 : Int32} {K : Int32 → q_M → Prop} (h : q_Ci X (d - 1) 92 [.int a1, .int 5] M (fun r2 M1 => ((¬ r2 = 0) → (K (M1 99 3) (q_set M1 99 3 a1))) ∧ ((r2 = 0) → (q_Ci X (d - 1) 91 [.ref 97, .int (-2)] M1 (fun r4 M3 => K r4 M3))))) : q_Ci X d 106 [.ref 97, .int a1] M K := by
  show q_Ex X d 106 0 [some (.ref 97), some (.int a1), none] [] M (q_ri K)
  refine q_iload_n (pc := 0) k106_0 rfl ?_
  refine q_iconst (pc := 1) (v := 5) k106_1 (by decide) ?_
  refine q_invS (pc := 2) (As := [.int a1, .int 5]) (st := []) k106_2 lm106_68 os92 rfl rfl (q_cat rfl) (Nat.le_of_ble_eq_true rfl) hd h ?_
  rintro v M1 ⟨r2, rfl, h⟩
  show q_Ex X d 106 (2 + 3) [some (.ref 97), some (.int a1), none] [.int r2] M1 _
  refine q_if_ne (pc := 5) 15 k106_5 (by decide) (fun g => ?_) (fun g => ?_)
  · replace h := h.1 g
    refine q_aload_n (pc := 15) k106_15 rfl ?_
    refine q_getR (pc := 16) k106_16 fg106_13 rfl rfl ?_
    refine q_iconst (pc := 19) (v := 3) k106_19 (by decide) ?_
    refine q_ialdv (pc := 20) (v := M1 99 3) k106_20 rfl (by decide) rfl ?_
    refine q_istore_n (pc := 21) [some (.ref 97), some (.int a1), some (.int (M1 99 3))] k106_21 rfl (by decide) rfl ?_
    refine q_aload_n (pc := 22) k106_22 rfl ?_
    refine q_getR (pc := 23) k106_23 fg106_13 rfl rfl ?_
    refine q_iconst (pc := 26) (v := 3) k106_26 (by decide) ?_
    refine q_iload_n (pc := 27) k106_27 rfl ?_
    refine q_iastv (pc := 28) (k := 3) k106_28 rfl (by decide) rfl ?_
    refine q_iload_n (pc := 29) k106_29 rfl ?_
    exact q_ireturn (pc := 30) k106_30 rfl ⟨_, rfl, h⟩
  · replace h := h.2 g
    refine q_aload_n (pc := 8) k106_8 rfl ?_
    refine q_bipush (pc := 9) (v := (-2)) k106_9 (by decide) ?_
    refine q_invV (pc := 11) (As := [.int (-2)]) (st := []) k106_11 lm106_80 ov91 rfl rfl rfl (q_cat rfl) (Nat.le_of_ble_eq_true rfl) hd h ?_
    rintro v M3 ⟨r4, rfl, h⟩
    show q_Ex X d 106 (11 + 3) [some (.ref 97), some (.int a1), none] [.int r4] M3 _
    exact q_ireturn (pc := 14) k106_14 rfl ⟨_, rfl, h⟩
set_option maxRecDepth 20000 in
theorem vc107 {X : Nat × (Nat → Int32)} {d : Nat} {M : q_M} {K : Int32 → q_M → Prop} (h : q_Ex X d 107 11 [some (.ref 97), some (.int 0), some (.int ((M 99 2) - 1))] [] M (q_ri K)) : q_Ci X d 107 [.ref 97] M K := by
  show q_Ex X d 107 0 [some (.ref 97), none, none] [] M (q_ri K)
  refine q_iconst (pc := 0) (v := 0) k107_0 (by decide) ?_
  refine q_istore_n (pc := 1) [some (.ref 97), some (.int 0), none] k107_1 rfl (by decide) rfl ?_
  refine q_aload_n (pc := 2) k107_2 rfl ?_
  refine q_getR (pc := 3) k107_3 fg107_13 rfl rfl ?_
  refine q_iconst (pc := 6) (v := 2) k107_6 (by decide) ?_
  refine q_ialdv (pc := 7) (v := M 99 2) k107_7 rfl (by decide) rfl ?_
  refine q_iconst (pc := 8) (v := 1) k107_8 (by decide) ?_
  refine q_isub (pc := 9) k107_9 ?_
  refine q_istore_n (pc := 10) [some (.ref 97), some (.int 0), some (.int ((M 99 2) - 1))] k107_10 rfl (by decide) rfl ?_
  exact h
set_option maxRecDepth 20000 in
theorem vc107_p11 {X : Nat × (Nat → Int32)} {d : Nat} {M : q_M} {a1 a2 : Int32} {K : Int32 → q_M → Prop} (h : ((a2 < 0) → (K a1 M)) ∧ ((¬ a2 < 0) → (vp_in (4 + a2) 135 ∧ (q_Ex X d 107 11 [some (.ref 97), some (.int ((10 * a1) + (M 99 (Int32.toNatClampNeg (4 + a2))))), some (.int (a2 + (-1)))] [] M (q_ri K))))) : q_Ex X d 107 11 [some (.ref 97), some (.int a1), some (.int a2)] [] M (q_ri K) := by
  refine q_iload_n (pc := 11) k107_11 rfl ?_
  refine q_if_lt (pc := 12) 35 k107_12 (by decide) (fun g => ?_) (fun g => ?_)
  · replace h := h.1 g
    refine q_iload_n (pc := 35) k107_35 rfl ?_
    exact q_ireturn (pc := 36) k107_36 rfl ⟨_, rfl, h⟩
  · replace h := h.2 g
    refine q_bipush (pc := 15) (v := 10) k107_15 (by decide) ?_
    refine q_iload_n (pc := 17) k107_17 rfl ?_
    refine q_imul (pc := 18) k107_18 ?_
    refine q_aload_n (pc := 19) k107_19 rfl ?_
    refine q_getR (pc := 20) k107_20 fg107_13 rfl rfl ?_
    refine q_iconst (pc := 23) (v := 4) k107_23 (by decide) ?_
    refine q_iload_n (pc := 24) k107_24 rfl ?_
    refine q_iadd (pc := 25) k107_25 ?_
    refine q_ialdv (pc := 26) (v := M 99 (Int32.toNatClampNeg (4 + a2))) k107_26 rfl h.1 rfl ?_
    replace h := h.2
    refine q_iadd (pc := 27) k107_27 ?_
    refine q_istore_n (pc := 28) [some (.ref 97), some (.int ((10 * a1) + (M 99 (Int32.toNatClampNeg (4 + a2))))), some (.int a2)] k107_28 rfl (by decide) rfl ?_
    refine q_iinc (pc := 29) (v := a2 + (-1)) [some (.ref 97), some (.int ((10 * a1) + (M 99 (Int32.toNatClampNeg (4 + a2))))), some (.int (a2 + (-1)))] k107_29 rfl rfl rfl (by decide) rfl ?_
    refine q_goto (pc := 32) 11 k107_32 (by decide) ?_
    exact h
set_option maxRecDepth 20000 in
theorem vc108 {X : Nat × (Nat → Int32)} {d : Nat} {M : q_M} {a1 : Int32} {K : Int32 → q_M → Prop} (h : q_Ex X d 108 7 [some (.ref 97), some (.int a1), some (.int a1), some (.int 0), some (.int 0)] [] M (q_ri K)) : q_Ci X d 108 [.ref 97, .int a1] M K := by
  show q_Ex X d 108 0 [some (.ref 97), some (.int a1), none, none, none] [] M (q_ri K)
  refine q_iload_n (pc := 0) k108_0 rfl ?_
  refine q_istore_n (pc := 1) [some (.ref 97), some (.int a1), some (.int a1), none, none] k108_1 rfl (by decide) rfl ?_
  refine q_iconst (pc := 2) (v := 0) k108_2 (by decide) ?_
  refine q_istore_n (pc := 3) [some (.ref 97), some (.int a1), some (.int a1), some (.int 0), none] k108_3 rfl (by decide) rfl ?_
  refine q_iconst (pc := 4) (v := 0) k108_4 (by decide) ?_
  refine q_istore (pc := 5) [some (.ref 97), some (.int a1), some (.int a1), some (.int 0), some (.int 0)] k108_5 rfl (by decide) rfl ?_
  exact h
set_option maxRecDepth 20000 in
theorem vc108_p7 {X : Nat × (Nat → Int32)} {d : Nat} {M : q_M} {a1 a2 a3 a4 : Int32} {K : Int32 → q_M → Prop} (h : (((M 99 2) ≤ a4) → (((a1 < 0) → (K 0 M)) ∧ ((¬ a1 < 0) → (((¬ a2 = 0) → (K 0 M)) ∧ ((a2 = 0) → (((¬ a3 = ((1 <<< ((M 99 2) &&& 31)) - 1)) → (K 0 M)) ∧ ((a3 = ((1 <<< ((M 99 2) &&& 31)) - 1)) → (K 1 M)))))))) ∧ ((¬ (M 99 2) ≤ a4) → (((a1 < 0) → (((a1 < 0) → (K 0 M)) ∧ ((¬ a1 < 0) → (((¬ a2 = 0) → (K 0 M)) ∧ ((a2 = 0) → (((¬ a3 = ((1 <<< ((M 99 2) &&& 31)) - 1)) → (K 0 M)) ∧ ((a3 = ((1 <<< ((M 99 2) &&& 31)) - 1)) → (K 1 M)))))))) ∧ ((¬ a1 < 0) → (vp_in a4 3 ∧ (q_Ex X d 108 7 [some (.ref 97), some (.int a1), some (.int (a2 / 10)), some (.int (a3 ||| (1 <<< ((a2 - a2 / 10 * 10) &&& 31)))), some (.int (a4 + 1))] [] (q_set M 103 (Int32.toNatClampNeg a4) (a2 - a2 / 10 * 10)) (q_ri K))))))) : q_Ex X d 108 7 [some (.ref 97), some (.int a1), some (.int a2), some (.int a3), some (.int a4)] [] M (q_ri K) := by
  refine q_iload (pc := 7) k108_7 rfl ?_
  refine q_aload_n (pc := 9) k108_9 rfl ?_
  refine q_getR (pc := 10) k108_10 fg108_13 rfl rfl ?_
  refine q_iconst (pc := 13) (v := 2) k108_13 (by decide) ?_
  refine q_ialdv (pc := 14) (v := M 99 2) k108_14 rfl (by decide) rfl ?_
  refine q_icmp_ge (pc := 15) 53 k108_15 (by decide) (fun g => ?_) (fun g => ?_)
  · replace h := h.1 g
    refine q_iload_n (pc := 53) k108_53 rfl ?_
    refine q_if_lt (pc := 54) 79 k108_54 (by decide) (fun g => ?_) (fun g => ?_)
    · replace h := h.1 g
      refine q_iconst (pc := 79) (v := 0) k108_79 (by decide) ?_
      exact q_zreturn (pc := 80) k108_80 rfl (by decide) ⟨_, rfl, h⟩
    · replace h := h.2 g
      refine q_iload_n (pc := 57) k108_57 rfl ?_
      refine q_if_ne (pc := 58) 79 k108_58 (by decide) (fun g => ?_) (fun g => ?_)
      · replace h := h.1 g
        refine q_iconst (pc := 79) (v := 0) k108_79 (by decide) ?_
        exact q_zreturn (pc := 80) k108_80 rfl (by decide) ⟨_, rfl, h⟩
      · replace h := h.2 g
        refine q_iload_n (pc := 61) k108_61 rfl ?_
        refine q_iconst (pc := 62) (v := 1) k108_62 (by decide) ?_
        refine q_aload_n (pc := 63) k108_63 rfl ?_
        refine q_getR (pc := 64) k108_64 fg108_13 rfl rfl ?_
        refine q_iconst (pc := 67) (v := 2) k108_67 (by decide) ?_
        refine q_ialdv (pc := 68) (v := M 99 2) k108_68 rfl (by decide) rfl ?_
        refine q_ishl (pc := 69) k108_69 ?_
        refine q_iconst (pc := 70) (v := 1) k108_70 (by decide) ?_
        refine q_isub (pc := 71) k108_71 ?_
        refine q_icmp_ne (pc := 72) 79 k108_72 (by decide) (fun g => ?_) (fun g => ?_)
        · replace h := h.1 g
          refine q_iconst (pc := 79) (v := 0) k108_79 (by decide) ?_
          exact q_zreturn (pc := 80) k108_80 rfl (by decide) ⟨_, rfl, h⟩
        · replace h := h.2 g
          refine q_iconst (pc := 75) (v := 1) k108_75 (by decide) ?_
          refine q_goto (pc := 76) 80 k108_76 (by decide) ?_
          exact q_zreturn (pc := 80) k108_80 rfl (by decide) ⟨_, rfl, h⟩
  · replace h := h.2 g
    refine q_iload_n (pc := 18) k108_18 rfl ?_
    refine q_if_lt (pc := 19) 53 k108_19 (by decide) (fun g => ?_) (fun g => ?_)
    · replace h := h.1 g
      refine q_iload_n (pc := 53) k108_53 rfl ?_
      refine q_if_lt (pc := 54) 79 k108_54 (by decide) (fun g => ?_) (fun g => ?_)
      · replace h := h.1 g
        refine q_iconst (pc := 79) (v := 0) k108_79 (by decide) ?_
        exact q_zreturn (pc := 80) k108_80 rfl (by decide) ⟨_, rfl, h⟩
      · replace h := h.2 g
        refine q_iload_n (pc := 57) k108_57 rfl ?_
        refine q_if_ne (pc := 58) 79 k108_58 (by decide) (fun g => ?_) (fun g => ?_)
        · replace h := h.1 g
          refine q_iconst (pc := 79) (v := 0) k108_79 (by decide) ?_
          exact q_zreturn (pc := 80) k108_80 rfl (by decide) ⟨_, rfl, h⟩
        · replace h := h.2 g
          refine q_iload_n (pc := 61) k108_61 rfl ?_
          refine q_iconst (pc := 62) (v := 1) k108_62 (by decide) ?_
          refine q_aload_n (pc := 63) k108_63 rfl ?_
          refine q_getR (pc := 64) k108_64 fg108_13 rfl rfl ?_
          refine q_iconst (pc := 67) (v := 2) k108_67 (by decide) ?_
          refine q_ialdv (pc := 68) (v := M 99 2) k108_68 rfl (by decide) rfl ?_
          refine q_ishl (pc := 69) k108_69 ?_
          refine q_iconst (pc := 70) (v := 1) k108_70 (by decide) ?_
          refine q_isub (pc := 71) k108_71 ?_
          refine q_icmp_ne (pc := 72) 79 k108_72 (by decide) (fun g => ?_) (fun g => ?_)
          · replace h := h.1 g
            refine q_iconst (pc := 79) (v := 0) k108_79 (by decide) ?_
            exact q_zreturn (pc := 80) k108_80 rfl (by decide) ⟨_, rfl, h⟩
          · replace h := h.2 g
            refine q_iconst (pc := 75) (v := 1) k108_75 (by decide) ?_
            refine q_goto (pc := 76) 80 k108_76 (by decide) ?_
            exact q_zreturn (pc := 80) k108_80 rfl (by decide) ⟨_, rfl, h⟩
    · replace h := h.2 g
      refine q_aload_n (pc := 22) k108_22 rfl ?_
      refine q_getR (pc := 23) k108_23 fg108_25 rfl rfl ?_
      refine q_iload (pc := 26) k108_26 rfl ?_
      refine q_iload_n (pc := 28) k108_28 rfl ?_
      refine q_bipush (pc := 29) (v := 10) k108_29 (by decide) ?_
      refine q_irem (pc := 31) k108_31 (by decide) ?_
      refine q_iastv (pc := 32) (k := (Int32.toNatClampNeg a4)) k108_32 rfl h.1 rfl ?_
      replace h := h.2
      refine q_iload_n (pc := 33) k108_33 rfl ?_
      refine q_iconst (pc := 34) (v := 1) k108_34 (by decide) ?_
      refine q_iload_n (pc := 35) k108_35 rfl ?_
      refine q_bipush (pc := 36) (v := 10) k108_36 (by decide) ?_
      refine q_irem (pc := 38) k108_38 (by decide) ?_
      refine q_ishl (pc := 39) k108_39 ?_
      refine q_ior (pc := 40) k108_40 ?_
      refine q_istore_n (pc := 41) [some (.ref 97), some (.int a1), some (.int a2), some (.int (a3 ||| (1 <<< ((a2 - a2 / 10 * 10) &&& 31)))), some (.int a4)] k108_41 rfl (by decide) rfl ?_
      refine q_iload_n (pc := 42) k108_42 rfl ?_
      refine q_bipush (pc := 43) (v := 10) k108_43 (by decide) ?_
      refine q_idiv (pc := 45) k108_45 (by decide) ?_
      refine q_istore_n (pc := 46) [some (.ref 97), some (.int a1), some (.int (a2 / 10)), some (.int (a3 ||| (1 <<< ((a2 - a2 / 10 * 10) &&& 31)))), some (.int a4)] k108_46 rfl (by decide) rfl ?_
      refine q_iinc (pc := 47) (v := a4 + 1) [some (.ref 97), some (.int a1), some (.int (a2 / 10)), some (.int (a3 ||| (1 <<< ((a2 - a2 / 10 * 10) &&& 31)))), some (.int (a4 + 1))] k108_47 rfl rfl rfl (by decide) rfl ?_
      refine q_goto (pc := 50) 7 k108_50 (by decide) ?_
      exact h
set_option maxRecDepth 20000 in
theorem vc109 {X : Nat × (Nat → Int32)} {d : Nat} (hd : 0 < d) {M : q_M} {a1 : Int32} {K : Int32 → q_M → Prop} (h : ((¬ (M 99 0) = 0) → (q_Ci X (d - 1) 108 [.ref 97, .int a1] M (fun r2 M1 => ((r2 = 0) → (q_Ci X (d - 1) 91 [.ref 97, .int (-1)] M1 (fun r4 M3 => K r4 M3))) ∧ ((¬ r2 = 0) → (q_Ci X (d - 1) 107 [.ref 97] M1 (fun r6 M5 => q_Ex X d 109 46 [some (.ref 97), none, none, some (.int r6), some (.int 0)] [] M5 (q_ri K))))))) ∧ (((M 99 0) = 0) → (q_Ci X (d - 1) 91 [.ref 97, .int (-3)] M (fun r8 M7 => K r8 M7)))) : q_Ci X d 109 [.ref 97, .int a1] M K := by
  show q_Ex X d 109 0 [some (.ref 97), some (.int a1), none, none, none] [] M (q_ri K)
  refine q_aload_n (pc := 0) k109_0 rfl ?_
  refine q_getR (pc := 1) k109_1 fg109_13 rfl rfl ?_
  refine q_iconst (pc := 4) (v := 0) k109_4 (by decide) ?_
  refine q_ialdv (pc := 5) (v := M 99 0) k109_5 rfl (by decide) rfl ?_
  refine q_if_ne (pc := 6) 14 k109_6 (by decide) (fun g => ?_) (fun g => ?_)
  · replace h := h.1 g
    refine q_aload_n (pc := 14) k109_14 rfl ?_
    refine q_iload_n (pc := 15) k109_15 rfl ?_
    refine q_invV (pc := 16) (As := [.int a1]) (st := []) k109_16 lm109_100 ov108 rfl rfl rfl (q_cat rfl) (Nat.le_of_ble_eq_true rfl) hd h ?_
    rintro v M1 ⟨r2, rfl, h⟩
    show q_Ex X d 109 (16 + 3) [some (.ref 97), some (.int a1), none, none, none] [.int r2] M1 _
    refine q_if_eq (pc := 19) 26 k109_19 (by decide) (fun g => ?_) (fun g => ?_)
    · replace h := h.1 g
      refine q_iconst (pc := 26) (v := (-1)) k109_26 (by decide) ?_
      refine q_istore_n (pc := 27) [some (.ref 97), some (.int a1), some (.int (-1)), none, none] k109_27 rfl (by decide) rfl ?_
      refine q_iload_n (pc := 28) k109_28 rfl ?_
      refine q_if_eq (pc := 29) 38 k109_29 (by decide) (fun g => absurd g (by decide)) (fun _ => ?_)
      refine q_aload_n (pc := 32) k109_32 rfl ?_
      refine q_iload_n (pc := 33) k109_33 rfl ?_
      refine q_invV (pc := 34) (As := [.int (-1)]) (st := []) k109_34 lm109_80 ov91 rfl rfl rfl (q_cat rfl) (Nat.le_of_ble_eq_true rfl) hd h ?_
      rintro v M3 ⟨r4, rfl, h⟩
      show q_Ex X d 109 (34 + 3) [some (.ref 97), some (.int a1), some (.int (-1)), none, none] [.int r4] M3 _
      exact q_ireturn (pc := 37) k109_37 rfl ⟨_, rfl, h⟩
    · replace h := h.2 g
      refine q_iconst (pc := 22) (v := 0) k109_22 (by decide) ?_
      refine q_goto (pc := 23) 27 k109_23 (by decide) ?_
      refine q_istore_n (pc := 27) [some (.ref 97), some (.int a1), some (.int 0), none, none] k109_27 rfl (by decide) rfl ?_
      refine q_iload_n (pc := 28) k109_28 rfl ?_
      refine q_if_eq (pc := 29) 38 k109_29 (by decide) (fun _ => ?_) (fun g => absurd g (by decide))
      refine q_aload_n (pc := 38) k109_38 rfl ?_
      refine q_invV (pc := 39) (As := []) (st := []) k109_39 lm109_103 ov107 rfl rfl rfl (q_cat rfl) (Nat.le_of_ble_eq_true rfl) hd h ?_
      rintro v M5 ⟨r6, rfl, h⟩
      show q_Ex X d 109 (39 + 3) [some (.ref 97), some (.int a1), some (.int 0), none, none] [.int r6] M5 _
      refine q_istore_n (pc := 42) [some (.ref 97), some (.int a1), some (.int 0), some (.int r6), none] k109_42 rfl (by decide) rfl ?_
      refine q_iconst (pc := 43) (v := 0) k109_43 (by decide) ?_
      refine q_istore (pc := 44) [some (.ref 97), some (.int a1), some (.int 0), some (.int r6), some (.int 0)] k109_44 rfl (by decide) rfl ?_
      exact q_forget [some (.ref 97), none, none, some (.int r6), some (.int 0)] (q_subOk (And.intro rfl (And.intro rfl (And.intro rfl (trivial))))) h
  · replace h := h.2 g
    refine q_bipush (pc := 9) (v := (-3)) k109_9 (by decide) ?_
    refine q_goto (pc := 11) 27 k109_11 (by decide) ?_
    refine q_istore_n (pc := 27) [some (.ref 97), some (.int a1), some (.int (-3)), none, none] k109_27 rfl (by decide) rfl ?_
    refine q_iload_n (pc := 28) k109_28 rfl ?_
    refine q_if_eq (pc := 29) 38 k109_29 (by decide) (fun g => absurd g (by decide)) (fun _ => ?_)
    refine q_aload_n (pc := 32) k109_32 rfl ?_
    refine q_iload_n (pc := 33) k109_33 rfl ?_
    refine q_invV (pc := 34) (As := [.int (-3)]) (st := []) k109_34 lm109_80 ov91 rfl rfl rfl (q_cat rfl) (Nat.le_of_ble_eq_true rfl) hd h ?_
    rintro v M7 ⟨r8, rfl, h⟩
    show q_Ex X d 109 (34 + 3) [some (.ref 97), some (.int a1), some (.int (-3)), none, none] [.int r8] M7 _
    exact q_ireturn (pc := 37) k109_37 rfl ⟨_, rfl, h⟩
set_option maxRecDepth 20000 in
theorem vc109_p46 {X : Nat × (Nat → Int32)} {d : Nat} {M : q_M} {a3 a4 : Int32} {K : Int32 → q_M → Prop} (h : (((M 99 2) ≤ a4) → (K a3 M)) ∧ ((¬ (M 99 2) ≤ a4) → (vp_in a4 3 ∧ (vp_in (4 + a4) 135 ∧ (q_Ex X d 109 46 [some (.ref 97), none, none, some (.int a3), some (.int (a4 + 1))] [] (q_set M 99 (Int32.toNatClampNeg (4 + a4)) (M 103 (Int32.toNatClampNeg a4))) (q_ri K)))))) : q_Ex X d 109 46 [some (.ref 97), none, none, some (.int a3), some (.int a4)] [] M (q_ri K) := by
  refine q_iload (pc := 46) k109_46 rfl ?_
  refine q_aload_n (pc := 48) k109_48 rfl ?_
  refine q_getR (pc := 49) k109_49 fg109_13 rfl rfl ?_
  refine q_iconst (pc := 52) (v := 2) k109_52 (by decide) ?_
  refine q_ialdv (pc := 53) (v := M 99 2) k109_53 rfl (by decide) rfl ?_
  refine q_icmp_ge (pc := 54) 79 k109_54 (by decide) (fun g => ?_) (fun g => ?_)
  · replace h := h.1 g
    refine q_iload_n (pc := 79) k109_79 rfl ?_
    exact q_ireturn (pc := 80) k109_80 rfl ⟨_, rfl, h⟩
  · replace h := h.2 g
    refine q_aload_n (pc := 57) k109_57 rfl ?_
    refine q_getR (pc := 58) k109_58 fg109_13 rfl rfl ?_
    refine q_iconst (pc := 61) (v := 4) k109_61 (by decide) ?_
    refine q_iload (pc := 62) k109_62 rfl ?_
    refine q_iadd (pc := 64) k109_64 ?_
    refine q_aload_n (pc := 65) k109_65 rfl ?_
    refine q_getR (pc := 66) k109_66 fg109_25 rfl rfl ?_
    refine q_iload (pc := 69) k109_69 rfl ?_
    refine q_ialdv (pc := 71) (v := M 103 (Int32.toNatClampNeg a4)) k109_71 rfl h.1 rfl ?_
    replace h := h.2
    refine q_iastv (pc := 72) (k := (Int32.toNatClampNeg (4 + a4))) k109_72 rfl h.1 rfl ?_
    replace h := h.2
    refine q_iinc (pc := 73) (v := a4 + 1) [some (.ref 97), none, none, some (.int a3), some (.int (a4 + 1))] k109_73 rfl rfl rfl (by decide) rfl ?_
    refine q_goto (pc := 76) 46 k109_76 (by decide) ?_
    exact h
set_option maxRecDepth 20000 in
theorem vc110 {X : Nat × (Nat → Int32)} {d : Nat} {M : q_M} {a1 a2 : Int32} {K : Int32 → q_M → Prop} (h : q_Ex X d 110 2 [some (.ref 97), some (.int a1), some (.int a2), some (.int 0)] [] M (q_ri K)) : q_Ci X d 110 [.ref 97, .int a1, .int a2] M K := by
  show q_Ex X d 110 0 [some (.ref 97), some (.int a1), some (.int a2), none] [] M (q_ri K)
  refine q_iconst (pc := 0) (v := 0) k110_0 (by decide) ?_
  refine q_istore_n (pc := 1) [some (.ref 97), some (.int a1), some (.int a2), some (.int 0)] k110_1 rfl (by decide) rfl ?_
  exact h
set_option maxRecDepth 20000 in
theorem vc110_p2 {X : Nat × (Nat → Int32)} {d : Nat} (hd : 0 < d) {M : q_M} {a1 a2 a3 : Int32} {K : Int32 → q_M → Prop} (h : q_Ci X (d - 1) 98 [.ref 97, .int a3] M (fun r2 M1 => ((¬ r2 = a1) → (q_Ex X d 110 2 [some (.ref 97), some (.int a1), some (.int a2), some (.int (a3 + 1))] [] M1 (q_ri K))) ∧ ((r2 = a1) → (q_Ci X (d - 1) 100 [.ref 97, .int a3] M1 (fun r4 M3 => ((r4 = a2) → (K a3 M3)) ∧ ((¬ r4 = a2) → (q_Ex X d 110 2 [some (.ref 97), some (.int a1), some (.int a2), some (.int (a3 + 1))] [] M3 (q_ri K)))))))) : q_Ex X d 110 2 [some (.ref 97), some (.int a1), some (.int a2), some (.int a3)] [] M (q_ri K) := by
  refine q_aload_n (pc := 2) k110_2 rfl ?_
  refine q_iload_n (pc := 3) k110_3 rfl ?_
  refine q_invV (pc := 4) (As := [.int a3]) (st := []) k110_4 lm110_106 ov98 rfl rfl rfl (q_cat rfl) (Nat.le_of_ble_eq_true rfl) hd h ?_
  rintro v M1 ⟨r2, rfl, h⟩
  show q_Ex X d 110 (4 + 3) [some (.ref 97), some (.int a1), some (.int a2), some (.int a3)] [.int r2] M1 _
  refine q_iload_n (pc := 7) k110_7 rfl ?_
  refine q_icmp_ne (pc := 8) 20 k110_8 (by decide) (fun g => ?_) (fun g => ?_)
  · replace h := h.1 g
    refine q_iinc (pc := 20) (v := a3 + 1) [some (.ref 97), some (.int a1), some (.int a2), some (.int (a3 + 1))] k110_20 rfl rfl rfl (by decide) rfl ?_
    refine q_goto (pc := 23) 2 k110_23 (by decide) ?_
    exact h
  · replace h := h.2 g
    refine q_aload_n (pc := 11) k110_11 rfl ?_
    refine q_iload_n (pc := 12) k110_12 rfl ?_
    refine q_invV (pc := 13) (As := [.int a3]) (st := []) k110_13 lm110_109 ov100 rfl rfl rfl (q_cat rfl) (Nat.le_of_ble_eq_true rfl) hd h ?_
    rintro v M3 ⟨r4, rfl, h⟩
    show q_Ex X d 110 (13 + 3) [some (.ref 97), some (.int a1), some (.int a2), some (.int a3)] [.int r4] M3 _
    refine q_iload_n (pc := 16) k110_16 rfl ?_
    refine q_icmp_eq (pc := 17) 26 k110_17 (by decide) (fun g => ?_) (fun g => ?_)
    · replace h := h.1 g
      refine q_iload_n (pc := 26) k110_26 rfl ?_
      exact q_ireturn (pc := 27) k110_27 rfl ⟨_, rfl, h⟩
    · replace h := h.2 g
      refine q_iinc (pc := 20) (v := a3 + 1) [some (.ref 97), some (.int a1), some (.int a2), some (.int (a3 + 1))] k110_20 rfl rfl rfl (by decide) rfl ?_
      refine q_goto (pc := 23) 2 k110_23 (by decide) ?_
      exact h
set_option maxRecDepth 20000 in
theorem vc111 {X : Nat × (Nat → Int32)} {d : Nat} (hd : 0 < d) {M : q_M} {a1 a2 : Int32} {K : Int32 → q_M → Prop} (h : ((¬ a2 = 0) → (¬ (M 99 1) = 0 ∧ (((((M 99 1) - 1) ≤ (a1 - a1 / (M 99 1) * (M 99 1))) → (K (-9) M)) ∧ ((¬ ((M 99 1) - 1) ≤ (a1 - a1 / (M 99 1) * (M 99 1))) → (((¬ a2 = 0) → (q_Ci X (d - 1) 98 [.ref 97, .int (a1 + 1)] M (fun r2 M1 => ((¬ r2 = 1) → (K (a1 + 1) M1)) ∧ ((r2 = 1) → (K (-9) M1))))) ∧ ((a2 = 0) → (q_Ci X (d - 1) 98 [.ref 97, .int (a1 + (M 99 1))] M (fun r4 M3 => ((¬ r4 = 1) → (K (a1 + (M 99 1)) M3)) ∧ ((r4 = 1) → (K (-9) M3)))))))))) ∧ ((a2 = 0) → (¬ (M 99 1) = 0 ∧ (((((M 99 0) - 1) ≤ (a1 / (M 99 1))) → (K (-9) M)) ∧ ((¬ ((M 99 0) - 1) ≤ (a1 / (M 99 1))) → (((¬ a2 = 0) → (q_Ci X (d - 1) 98 [.ref 97, .int (a1 + 1)] M (fun r6 M5 => ((¬ r6 = 1) → (K (a1 + 1) M5)) ∧ ((r6 = 1) → (K (-9) M5))))) ∧ ((a2 = 0) → (q_Ci X (d - 1) 98 [.ref 97, .int (a1 + (M 99 1))] M (fun r8 M7 => ((¬ r8 = 1) → (K (a1 + (M 99 1)) M7)) ∧ ((r8 = 1) → (K (-9) M7))))))))))) : q_Ci X d 111 [.ref 97, .int a1, .int a2] M K := by
  show q_Ex X d 111 0 [some (.ref 97), some (.int a1), some (.int a2), none, none] [] M (q_ri K)
  refine q_iload_n (pc := 0) k111_0 rfl ?_
  refine q_if_ne (pc := 1) 31 k111_1 (by decide) (fun g => ?_) (fun g => ?_)
  · replace h := h.1 g
    refine q_iload_n (pc := 31) k111_31 rfl ?_
    refine q_aload_n (pc := 32) k111_32 rfl ?_
    refine q_getR (pc := 33) k111_33 fg111_13 rfl rfl ?_
    refine q_iconst (pc := 36) (v := 1) k111_36 (by decide) ?_
    refine q_ialdv (pc := 37) (v := M 99 1) k111_37 rfl (by decide) rfl ?_
    refine q_irem (pc := 38) k111_38 h.1 ?_
    replace h := h.2
    refine q_aload_n (pc := 39) k111_39 rfl ?_
    refine q_getR (pc := 40) k111_40 fg111_13 rfl rfl ?_
    refine q_iconst (pc := 43) (v := 1) k111_43 (by decide) ?_
    refine q_ialdv (pc := 44) (v := M 99 1) k111_44 rfl (by decide) rfl ?_
    refine q_iconst (pc := 45) (v := 1) k111_45 (by decide) ?_
    refine q_isub (pc := 46) k111_46 ?_
    refine q_icmp_ge (pc := 47) 54 k111_47 (by decide) (fun g => ?_) (fun g => ?_)
    · replace h := h.1 g
      refine q_iconst (pc := 54) (v := 0) k111_54 (by decide) ?_
      refine q_istore_n (pc := 55) [some (.ref 97), some (.int a1), some (.int a2), some (.int 0), none] k111_55 rfl (by decide) rfl ?_
      refine q_iload_n (pc := 56) k111_56 rfl ?_
      refine q_if_ne (pc := 57) 63 k111_57 (by decide) (fun g => absurd g (by decide)) (fun _ => ?_)
      refine q_bipush (pc := 60) (v := (-9)) k111_60 (by decide) ?_
      exact q_ireturn (pc := 62) k111_62 rfl ⟨_, rfl, h⟩
    · replace h := h.2 g
      refine q_iconst (pc := 50) (v := 1) k111_50 (by decide) ?_
      refine q_goto (pc := 51) 55 k111_51 (by decide) ?_
      refine q_istore_n (pc := 55) [some (.ref 97), some (.int a1), some (.int a2), some (.int 1), none] k111_55 rfl (by decide) rfl ?_
      refine q_iload_n (pc := 56) k111_56 rfl ?_
      refine q_if_ne (pc := 57) 63 k111_57 (by decide) (fun _ => ?_) (fun g => absurd g (by decide))
      refine q_iload_n (pc := 63) k111_63 rfl ?_
      refine q_if_ne (pc := 64) 78 k111_64 (by decide) (fun g => ?_) (fun g => ?_)
      · replace h := h.1 g
        refine q_iload_n (pc := 78) k111_78 rfl ?_
        refine q_iconst (pc := 79) (v := 1) k111_79 (by decide) ?_
        refine q_iadd (pc := 80) k111_80 ?_
        refine q_istore (pc := 81) [some (.ref 97), some (.int a1), some (.int a2), some (.int 1), some (.int (a1 + 1))] k111_81 rfl (by decide) rfl ?_
        refine q_aload_n (pc := 83) k111_83 rfl ?_
        refine q_iload (pc := 84) k111_84 rfl ?_
        refine q_invV (pc := 86) (As := [.int (a1 + 1)]) (st := []) k111_86 lm111_106 ov98 rfl rfl rfl (q_cat rfl) (Nat.le_of_ble_eq_true rfl) hd h ?_
        rintro v M1 ⟨r2, rfl, h⟩
        show q_Ex X d 111 (86 + 3) [some (.ref 97), some (.int a1), some (.int a2), some (.int 1), some (.int (a1 + 1))] [.int r2] M1 _
        refine q_iconst (pc := 89) (v := 1) k111_89 (by decide) ?_
        refine q_icmp_ne (pc := 90) 98 k111_90 (by decide) (fun g => ?_) (fun g => ?_)
        · replace h := h.1 g
          refine q_iload (pc := 98) k111_98 rfl ?_
          exact q_ireturn (pc := 100) k111_100 rfl ⟨_, rfl, h⟩
        · replace h := h.2 g
          refine q_bipush (pc := 93) (v := (-9)) k111_93 (by decide) ?_
          refine q_goto (pc := 95) 100 k111_95 (by decide) ?_
          exact q_ireturn (pc := 100) k111_100 rfl ⟨_, rfl, h⟩
      · replace h := h.2 g
        refine q_iload_n (pc := 67) k111_67 rfl ?_
        refine q_aload_n (pc := 68) k111_68 rfl ?_
        refine q_getR (pc := 69) k111_69 fg111_13 rfl rfl ?_
        refine q_iconst (pc := 72) (v := 1) k111_72 (by decide) ?_
        refine q_ialdv (pc := 73) (v := M 99 1) k111_73 rfl (by decide) rfl ?_
        refine q_iadd (pc := 74) k111_74 ?_
        refine q_goto (pc := 75) 81 k111_75 (by decide) ?_
        refine q_istore (pc := 81) [some (.ref 97), some (.int a1), some (.int a2), some (.int 1), some (.int (a1 + (M 99 1)))] k111_81 rfl (by decide) rfl ?_
        refine q_aload_n (pc := 83) k111_83 rfl ?_
        refine q_iload (pc := 84) k111_84 rfl ?_
        refine q_invV (pc := 86) (As := [.int (a1 + (M 99 1))]) (st := []) k111_86 lm111_106 ov98 rfl rfl rfl (q_cat rfl) (Nat.le_of_ble_eq_true rfl) hd h ?_
        rintro v M3 ⟨r4, rfl, h⟩
        show q_Ex X d 111 (86 + 3) [some (.ref 97), some (.int a1), some (.int a2), some (.int 1), some (.int (a1 + (M 99 1)))] [.int r4] M3 _
        refine q_iconst (pc := 89) (v := 1) k111_89 (by decide) ?_
        refine q_icmp_ne (pc := 90) 98 k111_90 (by decide) (fun g => ?_) (fun g => ?_)
        · replace h := h.1 g
          refine q_iload (pc := 98) k111_98 rfl ?_
          exact q_ireturn (pc := 100) k111_100 rfl ⟨_, rfl, h⟩
        · replace h := h.2 g
          refine q_bipush (pc := 93) (v := (-9)) k111_93 (by decide) ?_
          refine q_goto (pc := 95) 100 k111_95 (by decide) ?_
          exact q_ireturn (pc := 100) k111_100 rfl ⟨_, rfl, h⟩
  · replace h := h.2 g
    refine q_iload_n (pc := 4) k111_4 rfl ?_
    refine q_aload_n (pc := 5) k111_5 rfl ?_
    refine q_getR (pc := 6) k111_6 fg111_13 rfl rfl ?_
    refine q_iconst (pc := 9) (v := 1) k111_9 (by decide) ?_
    refine q_ialdv (pc := 10) (v := M 99 1) k111_10 rfl (by decide) rfl ?_
    refine q_idiv (pc := 11) k111_11 h.1 ?_
    replace h := h.2
    refine q_aload_n (pc := 12) k111_12 rfl ?_
    refine q_getR (pc := 13) k111_13 fg111_13 rfl rfl ?_
    refine q_iconst (pc := 16) (v := 0) k111_16 (by decide) ?_
    refine q_ialdv (pc := 17) (v := M 99 0) k111_17 rfl (by decide) rfl ?_
    refine q_iconst (pc := 18) (v := 1) k111_18 (by decide) ?_
    refine q_isub (pc := 19) k111_19 ?_
    refine q_icmp_ge (pc := 20) 27 k111_20 (by decide) (fun g => ?_) (fun g => ?_)
    · replace h := h.1 g
      refine q_iconst (pc := 27) (v := 0) k111_27 (by decide) ?_
      refine q_goto (pc := 28) 55 k111_28 (by decide) ?_
      refine q_istore_n (pc := 55) [some (.ref 97), some (.int a1), some (.int a2), some (.int 0), none] k111_55 rfl (by decide) rfl ?_
      refine q_iload_n (pc := 56) k111_56 rfl ?_
      refine q_if_ne (pc := 57) 63 k111_57 (by decide) (fun g => absurd g (by decide)) (fun _ => ?_)
      refine q_bipush (pc := 60) (v := (-9)) k111_60 (by decide) ?_
      exact q_ireturn (pc := 62) k111_62 rfl ⟨_, rfl, h⟩
    · replace h := h.2 g
      refine q_iconst (pc := 23) (v := 1) k111_23 (by decide) ?_
      refine q_goto (pc := 24) 55 k111_24 (by decide) ?_
      refine q_istore_n (pc := 55) [some (.ref 97), some (.int a1), some (.int a2), some (.int 1), none] k111_55 rfl (by decide) rfl ?_
      refine q_iload_n (pc := 56) k111_56 rfl ?_
      refine q_if_ne (pc := 57) 63 k111_57 (by decide) (fun _ => ?_) (fun g => absurd g (by decide))
      refine q_iload_n (pc := 63) k111_63 rfl ?_
      refine q_if_ne (pc := 64) 78 k111_64 (by decide) (fun g => ?_) (fun g => ?_)
      · replace h := h.1 g
        refine q_iload_n (pc := 78) k111_78 rfl ?_
        refine q_iconst (pc := 79) (v := 1) k111_79 (by decide) ?_
        refine q_iadd (pc := 80) k111_80 ?_
        refine q_istore (pc := 81) [some (.ref 97), some (.int a1), some (.int a2), some (.int 1), some (.int (a1 + 1))] k111_81 rfl (by decide) rfl ?_
        refine q_aload_n (pc := 83) k111_83 rfl ?_
        refine q_iload (pc := 84) k111_84 rfl ?_
        refine q_invV (pc := 86) (As := [.int (a1 + 1)]) (st := []) k111_86 lm111_106 ov98 rfl rfl rfl (q_cat rfl) (Nat.le_of_ble_eq_true rfl) hd h ?_
        rintro v M5 ⟨r6, rfl, h⟩
        show q_Ex X d 111 (86 + 3) [some (.ref 97), some (.int a1), some (.int a2), some (.int 1), some (.int (a1 + 1))] [.int r6] M5 _
        refine q_iconst (pc := 89) (v := 1) k111_89 (by decide) ?_
        refine q_icmp_ne (pc := 90) 98 k111_90 (by decide) (fun g => ?_) (fun g => ?_)
        · replace h := h.1 g
          refine q_iload (pc := 98) k111_98 rfl ?_
          exact q_ireturn (pc := 100) k111_100 rfl ⟨_, rfl, h⟩
        · replace h := h.2 g
          refine q_bipush (pc := 93) (v := (-9)) k111_93 (by decide) ?_
          refine q_goto (pc := 95) 100 k111_95 (by decide) ?_
          exact q_ireturn (pc := 100) k111_100 rfl ⟨_, rfl, h⟩
      · replace h := h.2 g
        refine q_iload_n (pc := 67) k111_67 rfl ?_
        refine q_aload_n (pc := 68) k111_68 rfl ?_
        refine q_getR (pc := 69) k111_69 fg111_13 rfl rfl ?_
        refine q_iconst (pc := 72) (v := 1) k111_72 (by decide) ?_
        refine q_ialdv (pc := 73) (v := M 99 1) k111_73 rfl (by decide) rfl ?_
        refine q_iadd (pc := 74) k111_74 ?_
        refine q_goto (pc := 75) 81 k111_75 (by decide) ?_
        refine q_istore (pc := 81) [some (.ref 97), some (.int a1), some (.int a2), some (.int 1), some (.int (a1 + (M 99 1)))] k111_81 rfl (by decide) rfl ?_
        refine q_aload_n (pc := 83) k111_83 rfl ?_
        refine q_iload (pc := 84) k111_84 rfl ?_
        refine q_invV (pc := 86) (As := [.int (a1 + (M 99 1))]) (st := []) k111_86 lm111_106 ov98 rfl rfl rfl (q_cat rfl) (Nat.le_of_ble_eq_true rfl) hd h ?_
        rintro v M7 ⟨r8, rfl, h⟩
        show q_Ex X d 111 (86 + 3) [some (.ref 97), some (.int a1), some (.int a2), some (.int 1), some (.int (a1 + (M 99 1)))] [.int r8] M7 _
        refine q_iconst (pc := 89) (v := 1) k111_89 (by decide) ?_
        refine q_icmp_ne (pc := 90) 98 k111_90 (by decide) (fun g => ?_) (fun g => ?_)
        · replace h := h.1 g
          refine q_iload (pc := 98) k111_98 rfl ?_
          exact q_ireturn (pc := 100) k111_100 rfl ⟨_, rfl, h⟩
        · replace h := h.2 g
          refine q_bipush (pc := 93) (v := (-9)) k111_93 (by decide) ?_
          refine q_goto (pc := 95) 100 k111_95 (by decide) ?_
          exact q_ireturn (pc := 100) k111_100 rfl ⟨_, rfl, h⟩
set_option maxRecDepth 20000 in
theorem vc112 {X : Nat × (Nat → Int32)} {d : Nat} (hd : 0 < d) {M : q_M} {a1 a2 a3 a4 a5 : Int32} {K : q_M → Prop} (h : q_Ci X (d - 1) 98 [.ref 97, .int a2] M (fun r2 M1 => ((¬ r2 = 3) → (((a5 ≤ 0) → (q_Ex X d 112 90 [some (.ref 97), some (.int a1), some (.int a2), some (.int a3), some (.int a4), some (.int a5), some (.int 0), none] [] M1 (q_rn K))) ∧ ((¬ a5 ≤ 0) → (q_Ci X (d - 1) 98 [.ref 97, .int a2] M1 (fun r4 M3 => ((¬ r4 = 2) → (q_Ex X d 112 90 [some (.ref 97), some (.int a1), some (.int a2), some (.int a3), some (.int a4), some (.int a5), some (.int 0), none] [] M3 (q_rn K))) ∧ ((r4 = 2) → (K M3))))))) ∧ ((r2 = 3) → (vp_in a1 3 ∧ (vp_in ((400 * a1) + (M1 108 (Int32.toNatClampNeg a1))) 1200 ∧ (vp_in ((400 * a1) + (M1 108 (Int32.toNatClampNeg a1))) 1200 ∧ (vp_in ((400 * a1) + (M1 108 (Int32.toNatClampNeg a1))) 1200 ∧ (q_Ci X (d - 1) 100 [.ref 97, .int a2] (q_set (q_set (q_set M1 104 (Int32.toNatClampNeg ((400 * a1) + (M1 108 (Int32.toNatClampNeg a1)))) a3) 105 (Int32.toNatClampNeg ((400 * a1) + (M1 108 (Int32.toNatClampNeg a1)))) a4) 106 (Int32.toNatClampNeg ((400 * a1) + (M1 108 (Int32.toNatClampNeg a1)))) a5) (fun r6 M5 => vp_in ((400 * a1) + (M1 108 (Int32.toNatClampNeg a1))) 1200 ∧ (vp_in a1 3 ∧ (vp_in a1 3 ∧ (K (q_set (q_set M5 107 (Int32.toNatClampNeg ((400 * a1) + (M1 108 (Int32.toNatClampNeg a1)))) r6) 108 (Int32.toNatClampNeg a1) ((M5 108 (Int32.toNatClampNeg a1)) + 1)))))))))))))) : q_Cv X d 112 [.ref 97, .int a1, .int a2, .int a3, .int a4, .int a5] M K := by
  show q_Ex X d 112 0 [some (.ref 97), some (.int a1), some (.int a2), some (.int a3), some (.int a4), some (.int a5), none, none] [] M (q_rn K)
  refine q_aload_n (pc := 0) k112_0 rfl ?_
  refine q_iload_n (pc := 1) k112_1 rfl ?_
  refine q_invV (pc := 2) (As := [.int a2]) (st := []) k112_2 lm112_106 ov98 rfl rfl rfl (q_cat rfl) (Nat.le_of_ble_eq_true rfl) hd h ?_
  rintro v M1 ⟨r2, rfl, h⟩
  show q_Ex X d 112 (2 + 3) [some (.ref 97), some (.int a1), some (.int a2), some (.int a3), some (.int a4), some (.int a5), none, none] [.int r2] M1 _
  refine q_iconst (pc := 5) (v := 3) k112_5 (by decide) ?_
  refine q_icmp_ne (pc := 6) 72 k112_6 (by decide) (fun g => ?_) (fun g => ?_)
  · replace h := h.1 g
    refine q_iload (pc := 72) k112_72 rfl ?_
    refine q_if_le (pc := 74) 87 k112_74 (by decide) (fun g => ?_) (fun g => ?_)
    · replace h := h.1 g
      refine q_iconst (pc := 87) (v := 0) k112_87 (by decide) ?_
      refine q_istore (pc := 88) [some (.ref 97), some (.int a1), some (.int a2), some (.int a3), some (.int a4), some (.int a5), some (.int 0), none] k112_88 rfl (by decide) rfl ?_
      exact h
    · replace h := h.2 g
      refine q_aload_n (pc := 77) k112_77 rfl ?_
      refine q_iload_n (pc := 78) k112_78 rfl ?_
      refine q_invV (pc := 79) (As := [.int a2]) (st := []) k112_79 lm112_106 ov98 rfl rfl rfl (q_cat rfl) (Nat.le_of_ble_eq_true rfl) hd h ?_
      rintro v M3 ⟨r4, rfl, h⟩
      show q_Ex X d 112 (79 + 3) [some (.ref 97), some (.int a1), some (.int a2), some (.int a3), some (.int a4), some (.int a5), none, none] [.int r4] M3 _
      refine q_iconst (pc := 82) (v := 2) k112_82 (by decide) ?_
      refine q_icmp_ne (pc := 83) 87 k112_83 (by decide) (fun g => ?_) (fun g => ?_)
      · replace h := h.1 g
        refine q_iconst (pc := 87) (v := 0) k112_87 (by decide) ?_
        refine q_istore (pc := 88) [some (.ref 97), some (.int a1), some (.int a2), some (.int a3), some (.int a4), some (.int a5), some (.int 0), none] k112_88 rfl (by decide) rfl ?_
        exact h
      · replace h := h.2 g
        exact q_return (pc := 86) k112_86 rfl ⟨rfl, h⟩
  · replace h := h.2 g
    refine q_sipush (pc := 9) (v := 400) k112_9 (by decide) ?_
    refine q_iload_n (pc := 12) k112_12 rfl ?_
    refine q_imul (pc := 13) k112_13 ?_
    refine q_aload_n (pc := 14) k112_14 rfl ?_
    refine q_getR (pc := 15) k112_15 fg112_40 rfl rfl ?_
    refine q_iload_n (pc := 18) k112_18 rfl ?_
    refine q_ialdv (pc := 19) (v := M1 108 (Int32.toNatClampNeg a1)) k112_19 rfl h.1 rfl ?_
    replace h := h.2
    refine q_iadd (pc := 20) k112_20 ?_
    refine q_istore (pc := 21) [some (.ref 97), some (.int a1), some (.int a2), some (.int a3), some (.int a4), some (.int a5), some (.int ((400 * a1) + (M1 108 (Int32.toNatClampNeg a1)))), none] k112_21 rfl (by decide) rfl ?_
    refine q_aload_n (pc := 23) k112_23 rfl ?_
    refine q_getR (pc := 24) k112_24 fg112_28 rfl rfl ?_
    refine q_iload (pc := 27) k112_27 rfl ?_
    refine q_iload_n (pc := 29) k112_29 rfl ?_
    refine q_iastv (pc := 30) (k := (Int32.toNatClampNeg ((400 * a1) + (M1 108 (Int32.toNatClampNeg a1))))) k112_30 rfl h.1 rfl ?_
    replace h := h.2
    refine q_aload_n (pc := 31) k112_31 rfl ?_
    refine q_getR (pc := 32) k112_32 fg112_31 rfl rfl ?_
    refine q_iload (pc := 35) k112_35 rfl ?_
    refine q_iload (pc := 37) k112_37 rfl ?_
    refine q_iastv (pc := 39) (k := (Int32.toNatClampNeg ((400 * a1) + (M1 108 (Int32.toNatClampNeg a1))))) k112_39 rfl h.1 rfl ?_
    replace h := h.2
    refine q_aload_n (pc := 40) k112_40 rfl ?_
    refine q_getR (pc := 41) k112_41 fg112_34 rfl rfl ?_
    refine q_iload (pc := 44) k112_44 rfl ?_
    refine q_iload (pc := 46) k112_46 rfl ?_
    refine q_iastv (pc := 48) (k := (Int32.toNatClampNeg ((400 * a1) + (M1 108 (Int32.toNatClampNeg a1))))) k112_48 rfl h.1 rfl ?_
    replace h := h.2
    refine q_aload_n (pc := 49) k112_49 rfl ?_
    refine q_getR (pc := 50) k112_50 fg112_37 rfl rfl ?_
    refine q_iload (pc := 53) k112_53 rfl ?_
    refine q_aload_n (pc := 55) k112_55 rfl ?_
    refine q_iload_n (pc := 56) k112_56 rfl ?_
    refine q_invV (pc := 57) (As := [.int a2]) (st := [.int ((400 * a1) + (M1 108 (Int32.toNatClampNeg a1))), .ref 107]) k112_57 lm112_109 ov100 rfl rfl rfl (q_cat rfl) (Nat.le_of_ble_eq_true rfl) hd h ?_
    rintro v M5 ⟨r6, rfl, h⟩
    show q_Ex X d 112 (57 + 3) [some (.ref 97), some (.int a1), some (.int a2), some (.int a3), some (.int a4), some (.int a5), some (.int ((400 * a1) + (M1 108 (Int32.toNatClampNeg a1)))), none] [.int r6, .int ((400 * a1) + (M1 108 (Int32.toNatClampNeg a1))), .ref 107] M5 _
    refine q_iastv (pc := 60) (k := (Int32.toNatClampNeg ((400 * a1) + (M1 108 (Int32.toNatClampNeg a1))))) k112_60 rfl h.1 rfl ?_
    replace h := h.2
    refine q_aload_n (pc := 61) k112_61 rfl ?_
    refine q_getR (pc := 62) k112_62 fg112_40 rfl rfl ?_
    refine q_iload_n (pc := 65) k112_65 rfl ?_
    refine q_dup2 (pc := 66) k112_66 rfl rfl ?_
    refine q_ialdv (pc := 67) (v := M5 108 (Int32.toNatClampNeg a1)) k112_67 rfl h.1 rfl ?_
    replace h := h.2
    refine q_iconst (pc := 68) (v := 1) k112_68 (by decide) ?_
    refine q_iadd (pc := 69) k112_69 ?_
    refine q_iastv (pc := 70) (k := (Int32.toNatClampNeg a1)) k112_70 rfl h.1 rfl ?_
    replace h := h.2
    exact q_return (pc := 71) k112_71 rfl ⟨rfl, h⟩
set_option maxRecDepth 20000 in
theorem vc112_p90 {X : Nat × (Nat → Int32)} {d : Nat} (hd : 0 < d) {M : q_M} {a1 a2 a3 a4 a5 a6 : Int32} {K : q_M → Prop} (h : ((2 ≤ a6) → (K M)) ∧ ((¬ 2 ≤ a6) → (q_Ci X (d - 1) 111 [.ref 97, .int a2, .int a6] M (fun r2 M1 => ((r2 < 0) → (q_Ex X d 112 90 [some (.ref 97), some (.int a1), some (.int a2), some (.int a3), some (.int a4), some (.int a5), some (.int (a6 + 1)), none] [] M1 (q_rn K))) ∧ ((¬ r2 < 0) → (q_Cv X (d - 1) 112 [.ref 97, .int a1, .int r2, .int (a3 ||| (1 <<< (r2 &&& 31))), .int (a4 ||| (a6 <<< (a5 &&& 31))), .int (a5 + 1)] M1 (fun M3 => q_Ex X d 112 90 [some (.ref 97), some (.int a1), some (.int a2), some (.int a3), some (.int a4), some (.int a5), some (.int (a6 + 1)), none] [] M3 (q_rn K)))))))) : q_Ex X d 112 90 [some (.ref 97), some (.int a1), some (.int a2), some (.int a3), some (.int a4), some (.int a5), some (.int a6), none] [] M (q_rn K) := by
  refine q_iload (pc := 90) k112_90 rfl ?_
  refine q_iconst (pc := 92) (v := 2) k112_92 (by decide) ?_
  refine q_icmp_ge (pc := 93) 141 k112_93 (by decide) (fun g => ?_) (fun g => ?_)
  · replace h := h.1 g
    exact q_return (pc := 141) k112_141 rfl ⟨rfl, h⟩
  · replace h := h.2 g
    refine q_aload_n (pc := 96) k112_96 rfl ?_
    refine q_iload_n (pc := 97) k112_97 rfl ?_
    refine q_iload (pc := 98) k112_98 rfl ?_
    refine q_invV (pc := 100) (As := [.int a2, .int a6]) (st := []) k112_100 lm112_112 ov111 rfl rfl rfl (q_cat rfl) (Nat.le_of_ble_eq_true rfl) hd h ?_
    rintro v M1 ⟨r2, rfl, h⟩
    show q_Ex X d 112 (100 + 3) [some (.ref 97), some (.int a1), some (.int a2), some (.int a3), some (.int a4), some (.int a5), some (.int a6), none] [.int r2] M1 _
    refine q_istore (pc := 103) [some (.ref 97), some (.int a1), some (.int a2), some (.int a3), some (.int a4), some (.int a5), some (.int a6), some (.int r2)] k112_103 rfl (by decide) rfl ?_
    refine q_iload (pc := 105) k112_105 rfl ?_
    refine q_if_lt (pc := 107) 135 k112_107 (by decide) (fun g => ?_) (fun g => ?_)
    · replace h := h.1 g
      refine q_iinc (pc := 135) (v := a6 + 1) [some (.ref 97), some (.int a1), some (.int a2), some (.int a3), some (.int a4), some (.int a5), some (.int (a6 + 1)), some (.int r2)] k112_135 rfl rfl rfl (by decide) rfl ?_
      refine q_goto (pc := 138) 90 k112_138 (by decide) ?_
      exact q_forget [some (.ref 97), some (.int a1), some (.int a2), some (.int a3), some (.int a4), some (.int a5), some (.int (a6 + 1)), none] (q_subOk (And.intro rfl (And.intro rfl (And.intro rfl (And.intro rfl (And.intro rfl (And.intro rfl (And.intro rfl (trivial))))))))) h
    · replace h := h.2 g
      refine q_aload_n (pc := 110) k112_110 rfl ?_
      refine q_iload_n (pc := 111) k112_111 rfl ?_
      refine q_iload (pc := 112) k112_112 rfl ?_
      refine q_iload_n (pc := 114) k112_114 rfl ?_
      refine q_iconst (pc := 115) (v := 1) k112_115 (by decide) ?_
      refine q_iload (pc := 116) k112_116 rfl ?_
      refine q_ishl (pc := 118) k112_118 ?_
      refine q_ior (pc := 119) k112_119 ?_
      refine q_iload (pc := 120) k112_120 rfl ?_
      refine q_iload (pc := 122) k112_122 rfl ?_
      refine q_iload (pc := 124) k112_124 rfl ?_
      refine q_ishl (pc := 126) k112_126 ?_
      refine q_ior (pc := 127) k112_127 ?_
      refine q_iload (pc := 128) k112_128 rfl ?_
      refine q_iconst (pc := 130) (v := 1) k112_130 (by decide) ?_
      refine q_iadd (pc := 131) k112_131 ?_
      refine q_invV (pc := 132) (As := [.int a1, .int r2, .int (a3 ||| (1 <<< (r2 &&& 31))), .int (a4 ||| (a6 <<< (a5 &&& 31))), .int (a5 + 1)]) (st := []) k112_132 lm112_116 ov112 rfl rfl rfl (q_cat rfl) (Nat.le_of_ble_eq_true rfl) hd h ?_
      rintro v M3 ⟨rfl, h⟩
      show q_Ex X d 112 (132 + 3) [some (.ref 97), some (.int a1), some (.int a2), some (.int a3), some (.int a4), some (.int a5), some (.int a6), some (.int r2)] [] M3 _
      refine q_iinc (pc := 135) (v := a6 + 1) [some (.ref 97), some (.int a1), some (.int a2), some (.int a3), some (.int a4), some (.int a5), some (.int (a6 + 1)), some (.int r2)] k112_135 rfl rfl rfl (by decide) rfl ?_
      refine q_goto (pc := 138) 90 k112_138 (by decide) ?_
      exact q_forget [some (.ref 97), some (.int a1), some (.int a2), some (.int a3), some (.int a4), some (.int a5), some (.int (a6 + 1)), none] (q_subOk (And.intro rfl (And.intro rfl (And.intro rfl (And.intro rfl (And.intro rfl (And.intro rfl (And.intro rfl (trivial))))))))) h
set_option maxRecDepth 20000 in
theorem vc113 {X : Nat × (Nat → Int32)} {d : Nat} {M : q_M} {K : q_M → Prop} (h : q_Ex X d 113 2 [some (.ref 97), some (.int 0), none] [] M (q_rn K)) : q_Cv X d 113 [.ref 97] M K := by
  show q_Ex X d 113 0 [some (.ref 97), none, none] [] M (q_rn K)
  refine q_iconst (pc := 0) (v := 0) k113_0 (by decide) ?_
  refine q_istore_n (pc := 1) [some (.ref 97), some (.int 0), none] k113_1 rfl (by decide) rfl ?_
  exact h
set_option maxRecDepth 20000 in
theorem vc113_p2 {X : Nat × (Nat → Int32)} {d : Nat} (hd : 0 < d) {M : q_M} {a1 : Int32} {K : q_M → Prop} (h : (((M 99 2) ≤ a1) → (K M)) ∧ ((¬ (M 99 2) ≤ a1) → (vp_in a1 3 ∧ (q_Ci X (d - 1) 110 [.ref 97, .int 2, .int a1] (q_set M 108 (Int32.toNatClampNeg a1) 0) (fun r2 M1 => q_Cv X (d - 1) 112 [.ref 97, .int a1, .int r2, .int (1 <<< (r2 &&& 31)), .int 0, .int 0] M1 (fun M3 => q_Ex X d 113 2 [some (.ref 97), some (.int (a1 + 1)), none] [] M3 (q_rn K))))))) : q_Ex X d 113 2 [some (.ref 97), some (.int a1), none] [] M (q_rn K) := by
  refine q_iload_n (pc := 2) k113_2 rfl ?_
  refine q_aload_n (pc := 3) k113_3 rfl ?_
  refine q_getR (pc := 4) k113_4 fg113_13 rfl rfl ?_
  refine q_iconst (pc := 7) (v := 2) k113_7 (by decide) ?_
  refine q_ialdv (pc := 8) (v := M 99 2) k113_8 rfl (by decide) rfl ?_
  refine q_icmp_ge (pc := 9) 43 k113_9 (by decide) (fun g => ?_) (fun g => ?_)
  · replace h := h.1 g
    exact q_return (pc := 43) k113_43 rfl ⟨rfl, h⟩
  · replace h := h.2 g
    refine q_aload_n (pc := 12) k113_12 rfl ?_
    refine q_getR (pc := 13) k113_13 fg113_40 rfl rfl ?_
    refine q_iload_n (pc := 16) k113_16 rfl ?_
    refine q_iconst (pc := 17) (v := 0) k113_17 (by decide) ?_
    refine q_iastv (pc := 18) (k := (Int32.toNatClampNeg a1)) k113_18 rfl h.1 rfl ?_
    replace h := h.2
    refine q_aload_n (pc := 19) k113_19 rfl ?_
    refine q_iconst (pc := 20) (v := 2) k113_20 (by decide) ?_
    refine q_iload_n (pc := 21) k113_21 rfl ?_
    refine q_invV (pc := 22) (As := [.int 2, .int a1]) (st := []) k113_22 lm113_120 ov110 rfl rfl rfl (q_cat rfl) (Nat.le_of_ble_eq_true rfl) hd h ?_
    rintro v M1 ⟨r2, rfl, h⟩
    show q_Ex X d 113 (22 + 3) [some (.ref 97), some (.int a1), none] [.int r2] M1 _
    refine q_istore_n (pc := 25) [some (.ref 97), some (.int a1), some (.int r2)] k113_25 rfl (by decide) rfl ?_
    refine q_aload_n (pc := 26) k113_26 rfl ?_
    refine q_iload_n (pc := 27) k113_27 rfl ?_
    refine q_iload_n (pc := 28) k113_28 rfl ?_
    refine q_iconst (pc := 29) (v := 1) k113_29 (by decide) ?_
    refine q_iload_n (pc := 30) k113_30 rfl ?_
    refine q_ishl (pc := 31) k113_31 ?_
    refine q_iconst (pc := 32) (v := 0) k113_32 (by decide) ?_
    refine q_iconst (pc := 33) (v := 0) k113_33 (by decide) ?_
    refine q_invV (pc := 34) (As := [.int a1, .int r2, .int (1 <<< (r2 &&& 31)), .int 0, .int 0]) (st := []) k113_34 lm113_116 ov112 rfl rfl rfl (q_cat rfl) (Nat.le_of_ble_eq_true rfl) hd h ?_
    rintro v M3 ⟨rfl, h⟩
    show q_Ex X d 113 (34 + 3) [some (.ref 97), some (.int a1), some (.int r2)] [] M3 _
    refine q_iinc (pc := 37) (v := a1 + 1) [some (.ref 97), some (.int (a1 + 1)), some (.int r2)] k113_37 rfl rfl rfl (by decide) rfl ?_
    refine q_goto (pc := 40) 2 k113_40 (by decide) ?_
    exact q_forget [some (.ref 97), some (.int (a1 + 1)), none] (q_subOk (And.intro rfl (And.intro rfl (trivial)))) h
set_option maxRecDepth 20000 in
theorem vc114 {X : Nat × (Nat → Int32)} {d : Nat} {M : q_M} {a1 a2 : Int32} {K : Int32 → q_M → Prop} (h : ((¬ a1 = a2) → (q_Ex X d 114 12 [some (.ref 97), some (.int a1), some (.int a2), some (.int 0), some (.int 0), none] [] M (q_ri K))) ∧ ((a1 = a2) → (K 1 M))) : q_Ci X d 114 [.ref 97, .int a1, .int a2] M K := by
  show q_Ex X d 114 0 [some (.ref 97), some (.int a1), some (.int a2), none, none, none] [] M (q_ri K)
  refine q_iload_n (pc := 0) k114_0 rfl ?_
  refine q_iload_n (pc := 1) k114_1 rfl ?_
  refine q_icmp_ne (pc := 2) 7 k114_2 (by decide) (fun g => ?_) (fun g => ?_)
  · replace h := h.1 g
    refine q_iconst (pc := 7) (v := 0) k114_7 (by decide) ?_
    refine q_istore_n (pc := 8) [some (.ref 97), some (.int a1), some (.int a2), some (.int 0), none, none] k114_8 rfl (by decide) rfl ?_
    refine q_iconst (pc := 9) (v := 0) k114_9 (by decide) ?_
    refine q_istore (pc := 10) [some (.ref 97), some (.int a1), some (.int a2), some (.int 0), some (.int 0), none] k114_10 rfl (by decide) rfl ?_
    exact h
  · replace h := h.2 g
    refine q_iconst (pc := 5) (v := 1) k114_5 (by decide) ?_
    exact q_ireturn (pc := 6) k114_6 rfl ⟨_, rfl, h⟩
set_option maxRecDepth 20000 in
theorem vc114_p12 {X : Nat × (Nat → Int32)} {d : Nat} (hd : 0 < d) {M : q_M} {a1 a2 a3 a4 : Int32} {K : Int32 → q_M → Prop} (h : ((2 ≤ a4) → (K a3 M)) ∧ ((¬ 2 ≤ a4) → (q_Ci X (d - 1) 111 [.ref 97, .int a1, .int a4] M (fun r2 M1 => ((r2 < 0) → (q_Ex X d 114 12 [some (.ref 97), some (.int a1), some (.int a2), some (.int a3), some (.int (a4 + 1)), none] [] M1 (q_ri K))) ∧ ((¬ r2 < 0) → (q_Ci X (d - 1) 114 [.ref 97, .int r2, .int a2] M1 (fun r4 M3 => q_Ex X d 114 12 [some (.ref 97), some (.int a1), some (.int a2), some (.int (a3 + r4)), some (.int (a4 + 1)), none] [] M3 (q_ri K)))))))) : q_Ex X d 114 12 [some (.ref 97), some (.int a1), some (.int a2), some (.int a3), some (.int a4), none] [] M (q_ri K) := by
  refine q_iload (pc := 12) k114_12 rfl ?_
  refine q_iconst (pc := 14) (v := 2) k114_14 (by decide) ?_
  refine q_icmp_ge (pc := 15) 48 k114_15 (by decide) (fun g => ?_) (fun g => ?_)
  · replace h := h.1 g
    refine q_iload_n (pc := 48) k114_48 rfl ?_
    exact q_ireturn (pc := 49) k114_49 rfl ⟨_, rfl, h⟩
  · replace h := h.2 g
    refine q_aload_n (pc := 18) k114_18 rfl ?_
    refine q_iload_n (pc := 19) k114_19 rfl ?_
    refine q_iload (pc := 20) k114_20 rfl ?_
    refine q_invV (pc := 22) (As := [.int a1, .int a4]) (st := []) k114_22 lm114_112 ov111 rfl rfl rfl (q_cat rfl) (Nat.le_of_ble_eq_true rfl) hd h ?_
    rintro v M1 ⟨r2, rfl, h⟩
    show q_Ex X d 114 (22 + 3) [some (.ref 97), some (.int a1), some (.int a2), some (.int a3), some (.int a4), none] [.int r2] M1 _
    refine q_istore (pc := 25) [some (.ref 97), some (.int a1), some (.int a2), some (.int a3), some (.int a4), some (.int r2)] k114_25 rfl (by decide) rfl ?_
    refine q_iload (pc := 27) k114_27 rfl ?_
    refine q_if_lt (pc := 29) 42 k114_29 (by decide) (fun g => ?_) (fun g => ?_)
    · replace h := h.1 g
      refine q_iinc (pc := 42) (v := a4 + 1) [some (.ref 97), some (.int a1), some (.int a2), some (.int a3), some (.int (a4 + 1)), some (.int r2)] k114_42 rfl rfl rfl (by decide) rfl ?_
      refine q_goto (pc := 45) 12 k114_45 (by decide) ?_
      exact q_forget [some (.ref 97), some (.int a1), some (.int a2), some (.int a3), some (.int (a4 + 1)), none] (q_subOk (And.intro rfl (And.intro rfl (And.intro rfl (And.intro rfl (And.intro rfl (trivial))))))) h
    · replace h := h.2 g
      refine q_iload_n (pc := 32) k114_32 rfl ?_
      refine q_aload_n (pc := 33) k114_33 rfl ?_
      refine q_iload (pc := 34) k114_34 rfl ?_
      refine q_iload_n (pc := 36) k114_36 rfl ?_
      refine q_invV (pc := 37) (As := [.int r2, .int a2]) (st := [.int a3]) k114_37 lm114_123 ov114 rfl rfl rfl (q_cat rfl) (Nat.le_of_ble_eq_true rfl) hd h ?_
      rintro v M3 ⟨r4, rfl, h⟩
      show q_Ex X d 114 (37 + 3) [some (.ref 97), some (.int a1), some (.int a2), some (.int a3), some (.int a4), some (.int r2)] [.int r4, .int a3] M3 _
      refine q_iadd (pc := 40) k114_40 ?_
      refine q_istore_n (pc := 41) [some (.ref 97), some (.int a1), some (.int a2), some (.int (a3 + r4)), some (.int a4), some (.int r2)] k114_41 rfl (by decide) rfl ?_
      refine q_iinc (pc := 42) (v := a4 + 1) [some (.ref 97), some (.int a1), some (.int a2), some (.int (a3 + r4)), some (.int (a4 + 1)), some (.int r2)] k114_42 rfl rfl rfl (by decide) rfl ?_
      refine q_goto (pc := 45) 12 k114_45 (by decide) ?_
      exact q_forget [some (.ref 97), some (.int a1), some (.int a2), some (.int (a3 + r4)), some (.int (a4 + 1)), none] (q_subOk (And.intro rfl (And.intro rfl (And.intro rfl (And.intro rfl (And.intro rfl (trivial))))))) h
set_option maxRecDepth 20000 in
theorem vc115 {X : Nat × (Nat → Int32)} {d : Nat} (hd : 0 < d) {M : q_M} {a1 a2 : Int32} {K : Int32 → q_M → Prop} (h : q_Ci X (d - 1) 110 [.ref 97, .int 2, .int a1] M (fun r2 M1 => q_Ci X (d - 1) 110 [.ref 97, .int 3, .int a2] M1 (fun r4 M3 => q_Ci X (d - 1) 114 [.ref 97, .int r2, .int r4] M3 (fun r6 M5 => K r6 M5)))) : q_Ci X d 115 [.ref 97, .int a1, .int a2] M K := by
  show q_Ex X d 115 0 [some (.ref 97), some (.int a1), some (.int a2)] [] M (q_ri K)
  refine q_aload_n (pc := 0) k115_0 rfl ?_
  refine q_aload_n (pc := 1) k115_1 rfl ?_
  refine q_iconst (pc := 2) (v := 2) k115_2 (by decide) ?_
  refine q_iload_n (pc := 3) k115_3 rfl ?_
  refine q_invV (pc := 4) (As := [.int 2, .int a1]) (st := [.ref 97]) k115_4 lm115_120 ov110 rfl rfl rfl (q_cat rfl) (Nat.le_of_ble_eq_true rfl) hd h ?_
  rintro v M1 ⟨r2, rfl, h⟩
  show q_Ex X d 115 (4 + 3) [some (.ref 97), some (.int a1), some (.int a2)] [.int r2, .ref 97] M1 _
  refine q_aload_n (pc := 7) k115_7 rfl ?_
  refine q_iconst (pc := 8) (v := 3) k115_8 (by decide) ?_
  refine q_iload_n (pc := 9) k115_9 rfl ?_
  refine q_invV (pc := 10) (As := [.int 3, .int a2]) (st := [.int r2, .ref 97]) k115_10 lm115_120 ov110 rfl rfl rfl (q_cat rfl) (Nat.le_of_ble_eq_true rfl) hd h ?_
  rintro v M3 ⟨r4, rfl, h⟩
  show q_Ex X d 115 (10 + 3) [some (.ref 97), some (.int a1), some (.int a2)] [.int r4, .int r2, .ref 97] M3 _
  refine q_invV (pc := 13) (As := [.int r2, .int r4]) (st := []) k115_13 lm115_123 ov114 rfl rfl rfl (q_cat rfl) (Nat.le_of_ble_eq_true rfl) hd h ?_
  rintro v M5 ⟨r6, rfl, h⟩
  show q_Ex X d 115 (13 + 3) [some (.ref 97), some (.int a1), some (.int a2)] [.int r6] M5 _
  exact q_ireturn (pc := 16) k115_16 rfl ⟨_, rfl, h⟩
set_option maxRecDepth 20000 in
theorem vc116 {X : Nat × (Nat → Int32)} {d : Nat} (hd : 0 < d) {M : q_M} {a1 a2 : Int32} {K : Int32 → q_M → Prop} (h : q_Ci X (d - 1) 97 [.ref 97, .int a1] M (fun r2 M1 => ((r2 = 0) → (q_Ci X (d - 1) 91 [.ref 97, .int (-1)] M1 (fun r4 M3 => K r4 M3))) ∧ ((¬ r2 = 0) → (q_Ci X (d - 1) 97 [.ref 97, .int a2] M1 (fun r6 M5 => ((r6 = 0) → (q_Ci X (d - 1) 91 [.ref 97, .int (-1)] M5 (fun r8 M7 => K r8 M7))) ∧ ((¬ r6 = 0) → (q_Ci X (d - 1) 115 [.ref 97, .int a1, .int a2] M5 (fun r10 M9 => K r10 M9)))))))) : q_Ci X d 116 [.ref 97, .int a1, .int a2] M K := by
  show q_Ex X d 116 0 [some (.ref 97), some (.int a1), some (.int a2)] [] M (q_ri K)
  refine q_aload_n (pc := 0) k116_0 rfl ?_
  refine q_iload_n (pc := 1) k116_1 rfl ?_
  refine q_invV (pc := 2) (As := [.int a1]) (st := []) k116_2 lm116_126 ov97 rfl rfl rfl (q_cat rfl) (Nat.le_of_ble_eq_true rfl) hd h ?_
  rintro v M1 ⟨r2, rfl, h⟩
  show q_Ex X d 116 (2 + 3) [some (.ref 97), some (.int a1), some (.int a2)] [.int r2] M1 _
  refine q_if_eq (pc := 5) 25 k116_5 (by decide) (fun g => ?_) (fun g => ?_)
  · replace h := h.1 g
    refine q_aload_n (pc := 25) k116_25 rfl ?_
    refine q_iconst (pc := 26) (v := (-1)) k116_26 (by decide) ?_
    refine q_invV (pc := 27) (As := [.int (-1)]) (st := []) k116_27 lm116_80 ov91 rfl rfl rfl (q_cat rfl) (Nat.le_of_ble_eq_true rfl) hd h ?_
    rintro v M3 ⟨r4, rfl, h⟩
    show q_Ex X d 116 (27 + 3) [some (.ref 97), some (.int a1), some (.int a2)] [.int r4] M3 _
    exact q_ireturn (pc := 30) k116_30 rfl ⟨_, rfl, h⟩
  · replace h := h.2 g
    refine q_aload_n (pc := 8) k116_8 rfl ?_
    refine q_iload_n (pc := 9) k116_9 rfl ?_
    refine q_invV (pc := 10) (As := [.int a2]) (st := []) k116_10 lm116_126 ov97 rfl rfl rfl (q_cat rfl) (Nat.le_of_ble_eq_true rfl) hd h ?_
    rintro v M5 ⟨r6, rfl, h⟩
    show q_Ex X d 116 (10 + 3) [some (.ref 97), some (.int a1), some (.int a2)] [.int r6] M5 _
    refine q_if_eq (pc := 13) 25 k116_13 (by decide) (fun g => ?_) (fun g => ?_)
    · replace h := h.1 g
      refine q_aload_n (pc := 25) k116_25 rfl ?_
      refine q_iconst (pc := 26) (v := (-1)) k116_26 (by decide) ?_
      refine q_invV (pc := 27) (As := [.int (-1)]) (st := []) k116_27 lm116_80 ov91 rfl rfl rfl (q_cat rfl) (Nat.le_of_ble_eq_true rfl) hd h ?_
      rintro v M7 ⟨r8, rfl, h⟩
      show q_Ex X d 116 (27 + 3) [some (.ref 97), some (.int a1), some (.int a2)] [.int r8] M7 _
      exact q_ireturn (pc := 30) k116_30 rfl ⟨_, rfl, h⟩
    · replace h := h.2 g
      refine q_aload_n (pc := 16) k116_16 rfl ?_
      refine q_iload_n (pc := 17) k116_17 rfl ?_
      refine q_iload_n (pc := 18) k116_18 rfl ?_
      refine q_invV (pc := 19) (As := [.int a1, .int a2]) (st := []) k116_19 lm116_129 ov115 rfl rfl rfl (q_cat rfl) (Nat.le_of_ble_eq_true rfl) hd h ?_
      rintro v M9 ⟨r10, rfl, h⟩
      show q_Ex X d 116 (19 + 3) [some (.ref 97), some (.int a1), some (.int a2)] [.int r10] M9 _
      refine q_goto (pc := 22) 30 k116_22 (by decide) ?_
      exact q_ireturn (pc := 30) k116_30 rfl ⟨_, rfl, h⟩
set_option maxRecDepth 20000 in
theorem vc117 {X : Nat × (Nat → Int32)} {d : Nat} {M : q_M} {a1 : Int32} {K : Int32 → q_M → Prop} (h : q_Ex X d 117 4 [some (.ref 97), some (.int a1), some (.int 0), some (.int 0)] [] M (q_ri K)) : q_Ci X d 117 [.ref 97, .int a1] M K := by
  show q_Ex X d 117 0 [some (.ref 97), some (.int a1), none, none] [] M (q_ri K)
  refine q_iconst (pc := 0) (v := 0) k117_0 (by decide) ?_
  refine q_istore_n (pc := 1) [some (.ref 97), some (.int a1), some (.int 0), none] k117_1 rfl (by decide) rfl ?_
  refine q_iconst (pc := 2) (v := 0) k117_2 (by decide) ?_
  refine q_istore_n (pc := 3) [some (.ref 97), some (.int a1), some (.int 0), some (.int 0)] k117_3 rfl (by decide) rfl ?_
  exact h
set_option maxRecDepth 20000 in
theorem vc117_p4 {X : Nat × (Nat → Int32)} {d : Nat} (hd : 0 < d) {M : q_M} {a1 a2 a3 : Int32} {K : Int32 → q_M → Prop} (h : q_Ci X (d - 1) 95 [.ref 97] M (fun r2 M1 => ((r2 ≤ a3) → (K a2 M1)) ∧ ((¬ r2 ≤ a3) → (q_Ci X (d - 1) 99 [.ref 97, .int a3] M1 (fun r4 M3 => q_Ex X d 117 4 [some (.ref 97), some (.int a1), some (.int (a2 + (((a1 >>> (a3 &&& 31)) &&& 1) * r4))), some (.int (a3 + 1))] [] M3 (q_ri K)))))) : q_Ex X d 117 4 [some (.ref 97), some (.int a1), some (.int a2), some (.int a3)] [] M (q_ri K) := by
  refine q_iload_n (pc := 4) k117_4 rfl ?_
  refine q_aload_n (pc := 5) k117_5 rfl ?_
  refine q_invV (pc := 6) (As := []) (st := [.int a3]) k117_6 lm117_64 ov95 rfl rfl rfl (q_cat rfl) (Nat.le_of_ble_eq_true rfl) hd h ?_
  rintro v M1 ⟨r2, rfl, h⟩
  show q_Ex X d 117 (6 + 3) [some (.ref 97), some (.int a1), some (.int a2), some (.int a3)] [.int r2, .int a3] M1 _
  refine q_icmp_ge (pc := 9) 32 k117_9 (by decide) (fun g => ?_) (fun g => ?_)
  · replace h := h.1 g
    refine q_iload_n (pc := 32) k117_32 rfl ?_
    exact q_ireturn (pc := 33) k117_33 rfl ⟨_, rfl, h⟩
  · replace h := h.2 g
    refine q_iload_n (pc := 12) k117_12 rfl ?_
    refine q_iload_n (pc := 13) k117_13 rfl ?_
    refine q_iload_n (pc := 14) k117_14 rfl ?_
    refine q_ishr (pc := 15) k117_15 ?_
    refine q_iconst (pc := 16) (v := 1) k117_16 (by decide) ?_
    refine q_iand (pc := 17) k117_17 ?_
    refine q_aload_n (pc := 18) k117_18 rfl ?_
    refine q_iload_n (pc := 19) k117_19 rfl ?_
    refine q_invV (pc := 20) (As := [.int a3]) (st := [.int ((a1 >>> (a3 &&& 31)) &&& 1), .int a2]) k117_20 lm117_132 ov99 rfl rfl rfl (q_cat rfl) (Nat.le_of_ble_eq_true rfl) hd h ?_
    rintro v M3 ⟨r4, rfl, h⟩
    show q_Ex X d 117 (20 + 3) [some (.ref 97), some (.int a1), some (.int a2), some (.int a3)] [.int r4, .int ((a1 >>> (a3 &&& 31)) &&& 1), .int a2] M3 _
    refine q_imul (pc := 23) k117_23 ?_
    refine q_iadd (pc := 24) k117_24 ?_
    refine q_istore_n (pc := 25) [some (.ref 97), some (.int a1), some (.int (a2 + (((a1 >>> (a3 &&& 31)) &&& 1) * r4))), some (.int a3)] k117_25 rfl (by decide) rfl ?_
    refine q_iinc (pc := 26) (v := a3 + 1) [some (.ref 97), some (.int a1), some (.int (a2 + (((a1 >>> (a3 &&& 31)) &&& 1) * r4))), some (.int (a3 + 1))] k117_26 rfl rfl rfl (by decide) rfl ?_
    refine q_goto (pc := 29) 4 k117_29 (by decide) ?_
    exact h
set_option maxRecDepth 20000 in
theorem vc118 {X : Nat × (Nat → Int32)} {d : Nat} (hd : 0 < d) {M : q_M} {a1 : Int32} {K : q_M → Prop} (h : q_Ci X (d - 1) 117 [.ref 97, .int a1] M (fun r2 M1 => (((M1 97 21) < 0) → (((¬ (a1 &&& (M1 97 24)) = (M1 97 24)) → (q_Ex X d 118 51 [some (.ref 97), some (.int a1), none, some (.int 0), none] [] (q_set M1 97 21 r2) (q_rn K))) ∧ (((a1 &&& (M1 97 24)) = (M1 97 24)) → (q_Ex X d 118 51 [some (.ref 97), some (.int a1), none, some (.int 0), none] [] (q_set (q_set M1 97 21 r2) 97 22 ((M1 97 22) + 1)) (q_rn K))))) ∧ ((¬ (M1 97 21) < 0) → ((((M1 97 21) ≤ r2) → (((¬ (a1 &&& (M1 97 24)) = (M1 97 24)) → (q_Ex X d 118 51 [some (.ref 97), some (.int a1), none, some (.int 0), none] [] M1 (q_rn K))) ∧ (((a1 &&& (M1 97 24)) = (M1 97 24)) → (q_Ex X d 118 51 [some (.ref 97), some (.int a1), none, some (.int 0), none] [] (q_set M1 97 22 ((M1 97 22) + 1)) (q_rn K))))) ∧ ((¬ (M1 97 21) ≤ r2) → (((¬ (a1 &&& (M1 97 24)) = (M1 97 24)) → (q_Ex X d 118 51 [some (.ref 97), some (.int a1), none, some (.int 0), none] [] (q_set M1 97 21 r2) (q_rn K))) ∧ (((a1 &&& (M1 97 24)) = (M1 97 24)) → (q_Ex X d 118 51 [some (.ref 97), some (.int a1), none, some (.int 0), none] [] (q_set (q_set M1 97 21 r2) 97 22 ((M1 97 22) + 1)) (q_rn K))))))))) : q_Cv X d 118 [.ref 97, .int a1] M K := by
  show q_Ex X d 118 0 [some (.ref 97), some (.int a1), none, none, none] [] M (q_rn K)
  refine q_aload_n (pc := 0) k118_0 rfl ?_
  refine q_iload_n (pc := 1) k118_1 rfl ?_
  refine q_invV (pc := 2) (As := [.int a1]) (st := []) k118_2 lm118_135 ov117 rfl rfl rfl (q_cat rfl) (Nat.le_of_ble_eq_true rfl) hd h ?_
  rintro v M1 ⟨r2, rfl, h⟩
  show q_Ex X d 118 (2 + 3) [some (.ref 97), some (.int a1), none, none, none] [.int r2] M1 _
  refine q_istore_n (pc := 5) [some (.ref 97), some (.int a1), some (.int r2), none, none] k118_5 rfl (by decide) rfl ?_
  refine q_aload_n (pc := 6) k118_6 rfl ?_
  refine q_getIv (pc := 7) (v := M1 97 21) k118_7 fg118_138 rfl rfl rfl ?_
  refine q_if_lt (pc := 10) 21 k118_10 (by decide) (fun g => ?_) (fun g => ?_)
  · replace h := h.1 g
    refine q_aload_n (pc := 21) k118_21 rfl ?_
    refine q_iload_n (pc := 22) k118_22 rfl ?_
    refine q_putI (pc := 23) k118_23 fp118_138 rfl rfl ?_
    refine q_iload_n (pc := 26) k118_26 rfl ?_
    refine q_aload_n (pc := 27) k118_27 rfl ?_
    refine q_getIv (pc := 28) (v := M1 97 24) k118_28 fg118_141 rfl rfl rfl ?_
    refine q_iand (pc := 31) k118_31 ?_
    refine q_aload_n (pc := 32) k118_32 rfl ?_
    refine q_getIv (pc := 33) (v := M1 97 24) k118_33 fg118_141 rfl rfl rfl ?_
    refine q_icmp_ne (pc := 36) 49 k118_36 (by decide) (fun g => ?_) (fun g => ?_)
    · replace h := h.1 g
      refine q_iconst (pc := 49) (v := 0) k118_49 (by decide) ?_
      refine q_istore_n (pc := 50) [some (.ref 97), some (.int a1), some (.int r2), some (.int 0), none] k118_50 rfl (by decide) rfl ?_
      exact q_forget [some (.ref 97), some (.int a1), none, some (.int 0), none] (q_subOk (And.intro rfl (And.intro rfl (And.intro rfl (trivial))))) h
    · replace h := h.2 g
      refine q_aload_n (pc := 39) k118_39 rfl ?_
      refine q_dup (pc := 40) k118_40 rfl ?_
      refine q_getIv (pc := 41) (v := M1 97 22) k118_41 fg118_144 rfl rfl rfl ?_
      refine q_iconst (pc := 44) (v := 1) k118_44 (by decide) ?_
      refine q_iadd (pc := 45) k118_45 ?_
      refine q_putI (pc := 46) k118_46 fp118_144 rfl rfl ?_
      refine q_iconst (pc := 49) (v := 0) k118_49 (by decide) ?_
      refine q_istore_n (pc := 50) [some (.ref 97), some (.int a1), some (.int r2), some (.int 0), none] k118_50 rfl (by decide) rfl ?_
      exact q_forget [some (.ref 97), some (.int a1), none, some (.int 0), none] (q_subOk (And.intro rfl (And.intro rfl (And.intro rfl (trivial))))) h
  · replace h := h.2 g
    refine q_iload_n (pc := 13) k118_13 rfl ?_
    refine q_aload_n (pc := 14) k118_14 rfl ?_
    refine q_getIv (pc := 15) (v := M1 97 21) k118_15 fg118_138 rfl rfl rfl ?_
    refine q_icmp_ge (pc := 18) 26 k118_18 (by decide) (fun g => ?_) (fun g => ?_)
    · replace h := h.1 g
      refine q_iload_n (pc := 26) k118_26 rfl ?_
      refine q_aload_n (pc := 27) k118_27 rfl ?_
      refine q_getIv (pc := 28) (v := M1 97 24) k118_28 fg118_141 rfl rfl rfl ?_
      refine q_iand (pc := 31) k118_31 ?_
      refine q_aload_n (pc := 32) k118_32 rfl ?_
      refine q_getIv (pc := 33) (v := M1 97 24) k118_33 fg118_141 rfl rfl rfl ?_
      refine q_icmp_ne (pc := 36) 49 k118_36 (by decide) (fun g => ?_) (fun g => ?_)
      · replace h := h.1 g
        refine q_iconst (pc := 49) (v := 0) k118_49 (by decide) ?_
        refine q_istore_n (pc := 50) [some (.ref 97), some (.int a1), some (.int r2), some (.int 0), none] k118_50 rfl (by decide) rfl ?_
        exact q_forget [some (.ref 97), some (.int a1), none, some (.int 0), none] (q_subOk (And.intro rfl (And.intro rfl (And.intro rfl (trivial))))) h
      · replace h := h.2 g
        refine q_aload_n (pc := 39) k118_39 rfl ?_
        refine q_dup (pc := 40) k118_40 rfl ?_
        refine q_getIv (pc := 41) (v := M1 97 22) k118_41 fg118_144 rfl rfl rfl ?_
        refine q_iconst (pc := 44) (v := 1) k118_44 (by decide) ?_
        refine q_iadd (pc := 45) k118_45 ?_
        refine q_putI (pc := 46) k118_46 fp118_144 rfl rfl ?_
        refine q_iconst (pc := 49) (v := 0) k118_49 (by decide) ?_
        refine q_istore_n (pc := 50) [some (.ref 97), some (.int a1), some (.int r2), some (.int 0), none] k118_50 rfl (by decide) rfl ?_
        exact q_forget [some (.ref 97), some (.int a1), none, some (.int 0), none] (q_subOk (And.intro rfl (And.intro rfl (And.intro rfl (trivial))))) h
    · replace h := h.2 g
      refine q_aload_n (pc := 21) k118_21 rfl ?_
      refine q_iload_n (pc := 22) k118_22 rfl ?_
      refine q_putI (pc := 23) k118_23 fp118_138 rfl rfl ?_
      refine q_iload_n (pc := 26) k118_26 rfl ?_
      refine q_aload_n (pc := 27) k118_27 rfl ?_
      refine q_getIv (pc := 28) (v := M1 97 24) k118_28 fg118_141 rfl rfl rfl ?_
      refine q_iand (pc := 31) k118_31 ?_
      refine q_aload_n (pc := 32) k118_32 rfl ?_
      refine q_getIv (pc := 33) (v := M1 97 24) k118_33 fg118_141 rfl rfl rfl ?_
      refine q_icmp_ne (pc := 36) 49 k118_36 (by decide) (fun g => ?_) (fun g => ?_)
      · replace h := h.1 g
        refine q_iconst (pc := 49) (v := 0) k118_49 (by decide) ?_
        refine q_istore_n (pc := 50) [some (.ref 97), some (.int a1), some (.int r2), some (.int 0), none] k118_50 rfl (by decide) rfl ?_
        exact q_forget [some (.ref 97), some (.int a1), none, some (.int 0), none] (q_subOk (And.intro rfl (And.intro rfl (And.intro rfl (trivial))))) h
      · replace h := h.2 g
        refine q_aload_n (pc := 39) k118_39 rfl ?_
        refine q_dup (pc := 40) k118_40 rfl ?_
        refine q_getIv (pc := 41) (v := M1 97 22) k118_41 fg118_144 rfl rfl rfl ?_
        refine q_iconst (pc := 44) (v := 1) k118_44 (by decide) ?_
        refine q_iadd (pc := 45) k118_45 ?_
        refine q_putI (pc := 46) k118_46 fp118_144 rfl rfl ?_
        refine q_iconst (pc := 49) (v := 0) k118_49 (by decide) ?_
        refine q_istore_n (pc := 50) [some (.ref 97), some (.int a1), some (.int r2), some (.int 0), none] k118_50 rfl (by decide) rfl ?_
        exact q_forget [some (.ref 97), some (.int a1), none, some (.int 0), none] (q_subOk (And.intro rfl (And.intro rfl (And.intro rfl (trivial))))) h
set_option maxRecDepth 20000 in
theorem vc118_p51 {X : Nat × (Nat → Int32)} {d : Nat} (hd : 0 < d) {M : q_M} {a1 a3 : Int32} {K : q_M → Prop} (h : q_Ci X (d - 1) 95 [.ref 97] M (fun r2 M1 => ((r2 ≤ a3) → (q_Ex X d 118 81 [some (.ref 97), none, none, some (.int 0), none] [] M1 (q_rn K))) ∧ ((¬ r2 ≤ a3) → (vp_in a3 30 ∧ (vp_in a3 30 ∧ (q_Ex X d 118 51 [some (.ref 97), some (.int a1), none, some (.int (a3 + 1)), none] [] (q_set M1 112 (Int32.toNatClampNeg a3) ((M1 112 (Int32.toNatClampNeg a3)) + ((a1 >>> (a3 &&& 31)) &&& 1))) (q_rn K))))))) : q_Ex X d 118 51 [some (.ref 97), some (.int a1), none, some (.int a3), none] [] M (q_rn K) := by
  refine q_iload_n (pc := 51) k118_51 rfl ?_
  refine q_aload_n (pc := 52) k118_52 rfl ?_
  refine q_invV (pc := 53) (As := []) (st := [.int a3]) k118_53 lm118_64 ov95 rfl rfl rfl (q_cat rfl) (Nat.le_of_ble_eq_true rfl) hd h ?_
  rintro v M1 ⟨r2, rfl, h⟩
  show q_Ex X d 118 (53 + 3) [some (.ref 97), some (.int a1), none, some (.int a3), none] [.int r2, .int a3] M1 _
  refine q_icmp_ge (pc := 56) 79 k118_56 (by decide) (fun g => ?_) (fun g => ?_)
  · replace h := h.1 g
    refine q_iconst (pc := 79) (v := 0) k118_79 (by decide) ?_
    refine q_istore_n (pc := 80) [some (.ref 97), some (.int a1), none, some (.int 0), none] k118_80 rfl (by decide) rfl ?_
    exact q_forget [some (.ref 97), none, none, some (.int 0), none] (q_subOk (And.intro rfl (And.intro rfl (trivial)))) h
  · replace h := h.2 g
    refine q_aload_n (pc := 59) k118_59 rfl ?_
    refine q_getR (pc := 60) k118_60 fg118_52 rfl rfl ?_
    refine q_iload_n (pc := 63) k118_63 rfl ?_
    refine q_dup2 (pc := 64) k118_64 rfl rfl ?_
    refine q_ialdv (pc := 65) (v := M1 112 (Int32.toNatClampNeg a3)) k118_65 rfl h.1 rfl ?_
    replace h := h.2
    refine q_iload_n (pc := 66) k118_66 rfl ?_
    refine q_iload_n (pc := 67) k118_67 rfl ?_
    refine q_ishr (pc := 68) k118_68 ?_
    refine q_iconst (pc := 69) (v := 1) k118_69 (by decide) ?_
    refine q_iand (pc := 70) k118_70 ?_
    refine q_iadd (pc := 71) k118_71 ?_
    refine q_iastv (pc := 72) (k := (Int32.toNatClampNeg a3)) k118_72 rfl h.1 rfl ?_
    replace h := h.2
    refine q_iinc (pc := 73) (v := a3 + 1) [some (.ref 97), some (.int a1), none, some (.int (a3 + 1)), none] k118_73 rfl rfl rfl (by decide) rfl ?_
    refine q_goto (pc := 76) 51 k118_76 (by decide) ?_
    exact h
set_option maxRecDepth 20000 in
theorem vc118_p81 {X : Nat × (Nat → Int32)} {d : Nat} {M : q_M} {a3 : Int32} {K : q_M → Prop} (h : (((M 99 2) ≤ a3) → (K (q_set M 97 20 ((M 97 20) + 1)))) ∧ ((¬ (M 99 2) ≤ a3) → (q_Ex X d 118 94 [some (.ref 97), none, none, some (.int a3), some (.int 0)] [] M (q_rn K)))) : q_Ex X d 118 81 [some (.ref 97), none, none, some (.int a3), none] [] M (q_rn K) := by
  refine q_iload_n (pc := 81) k118_81 rfl ?_
  refine q_aload_n (pc := 82) k118_82 rfl ?_
  refine q_getR (pc := 83) k118_83 fg118_13 rfl rfl ?_
  refine q_iconst (pc := 86) (v := 2) k118_86 (by decide) ?_
  refine q_ialdv (pc := 87) (v := M 99 2) k118_87 rfl (by decide) rfl ?_
  refine q_icmp_ge (pc := 88) 177 k118_88 (by decide) (fun g => ?_) (fun g => ?_)
  · replace h := h.1 g
    refine q_aload_n (pc := 177) k118_177 rfl ?_
    refine q_dup (pc := 178) k118_178 rfl ?_
    refine q_getIv (pc := 179) (v := M 97 20) k118_179 fg118_147 rfl rfl rfl ?_
    refine q_iconst (pc := 182) (v := 1) k118_182 (by decide) ?_
    refine q_iadd (pc := 183) k118_183 ?_
    refine q_putI (pc := 184) k118_184 fp118_147 rfl rfl ?_
    exact q_return (pc := 187) k118_187 rfl ⟨rfl, h⟩
  · replace h := h.2 g
    refine q_iconst (pc := 91) (v := 0) k118_91 (by decide) ?_
    refine q_istore (pc := 92) [some (.ref 97), none, none, some (.int a3), some (.int 0)] k118_92 rfl (by decide) rfl ?_
    exact h
set_option maxRecDepth 20000 in
theorem vc118_p94 {X : Nat × (Nat → Int32)} {d : Nat} (hd : 0 < d) {M : q_M} {a3 a4 : Int32} {K : q_M → Prop} (h : q_Ci X (d - 1) 95 [.ref 97] M (fun r2 M1 => ((r2 ≤ a4) → (((¬ (M1 97 20) = (M1 97 23)) → (q_Ex X d 118 81 [some (.ref 97), none, none, some (.int (a3 + 1)), none] [] M1 (q_rn K))) ∧ (((M1 97 20) = (M1 97 23)) → (vp_in a3 3 ∧ (vp_in a3 3 ∧ (q_Ex X d 118 81 [some (.ref 97), none, none, some (.int (a3 + 1)), none] [] (q_set M1 111 (Int32.toNatClampNeg a3) (M1 110 (Int32.toNatClampNeg a3))) (q_rn K))))))) ∧ ((¬ r2 ≤ a4) → (vp_in a3 3 ∧ (vp_in ((400 * a3) + (M1 110 (Int32.toNatClampNeg a3))) 1200 ∧ (((¬ (((M1 104 (Int32.toNatClampNeg ((400 * a3) + (M1 110 (Int32.toNatClampNeg a3))))) >>> (a4 &&& 31)) &&& 1) = 1) → (q_Ex X d 118 94 [some (.ref 97), none, none, some (.int a3), some (.int (a4 + 1))] [] M1 (q_rn K))) ∧ (((((M1 104 (Int32.toNatClampNeg ((400 * a3) + (M1 110 (Int32.toNatClampNeg a3))))) >>> (a4 &&& 31)) &&& 1) = 1) → (vp_in a4 30 ∧ (vp_in a4 30 ∧ (q_Ex X d 118 94 [some (.ref 97), none, none, some (.int a3), some (.int (a4 + 1))] [] (q_set M1 113 (Int32.toNatClampNeg a4) ((M1 113 (Int32.toNatClampNeg a4)) ||| (1 <<< (a3 &&& 31)))) (q_rn K))))))))))) : q_Ex X d 118 94 [some (.ref 97), none, none, some (.int a3), some (.int a4)] [] M (q_rn K) := by
  refine q_iload (pc := 94) k118_94 rfl ?_
  refine q_aload_n (pc := 96) k118_96 rfl ?_
  refine q_invV (pc := 97) (As := []) (st := [.int a4]) k118_97 lm118_64 ov95 rfl rfl rfl (q_cat rfl) (Nat.le_of_ble_eq_true rfl) hd h ?_
  rintro v M1 ⟨r2, rfl, h⟩
  show q_Ex X d 118 (97 + 3) [some (.ref 97), none, none, some (.int a3), some (.int a4)] [.int r2, .int a4] M1 _
  refine q_icmp_ge (pc := 100) 148 k118_100 (by decide) (fun g => ?_) (fun g => ?_)
  · replace h := h.1 g
    refine q_aload_n (pc := 148) k118_148 rfl ?_
    refine q_getIv (pc := 149) (v := M1 97 20) k118_149 fg118_147 rfl rfl rfl ?_
    refine q_aload_n (pc := 152) k118_152 rfl ?_
    refine q_getIv (pc := 153) (v := M1 97 23) k118_153 fg118_150 rfl rfl rfl ?_
    refine q_icmp_ne (pc := 156) 171 k118_156 (by decide) (fun g => ?_) (fun g => ?_)
    · replace h := h.1 g
      refine q_iinc (pc := 171) (v := a3 + 1) [some (.ref 97), none, none, some (.int (a3 + 1)), some (.int a4)] k118_171 rfl rfl rfl (by decide) rfl ?_
      refine q_goto (pc := 174) 81 k118_174 (by decide) ?_
      exact q_forget [some (.ref 97), none, none, some (.int (a3 + 1)), none] (q_subOk (And.intro rfl (And.intro rfl (trivial)))) h
    · replace h := h.2 g
      refine q_aload_n (pc := 159) k118_159 rfl ?_
      refine q_getR (pc := 160) k118_160 fg118_49 rfl rfl ?_
      refine q_iload_n (pc := 163) k118_163 rfl ?_
      refine q_aload_n (pc := 164) k118_164 rfl ?_
      refine q_getR (pc := 165) k118_165 fg118_46 rfl rfl ?_
      refine q_iload_n (pc := 168) k118_168 rfl ?_
      refine q_ialdv (pc := 169) (v := M1 110 (Int32.toNatClampNeg a3)) k118_169 rfl h.1 rfl ?_
      replace h := h.2
      refine q_iastv (pc := 170) (k := (Int32.toNatClampNeg a3)) k118_170 rfl h.1 rfl ?_
      replace h := h.2
      refine q_iinc (pc := 171) (v := a3 + 1) [some (.ref 97), none, none, some (.int (a3 + 1)), some (.int a4)] k118_171 rfl rfl rfl (by decide) rfl ?_
      refine q_goto (pc := 174) 81 k118_174 (by decide) ?_
      exact q_forget [some (.ref 97), none, none, some (.int (a3 + 1)), none] (q_subOk (And.intro rfl (And.intro rfl (trivial)))) h
  · replace h := h.2 g
    refine q_aload_n (pc := 103) k118_103 rfl ?_
    refine q_getR (pc := 104) k118_104 fg118_28 rfl rfl ?_
    refine q_sipush (pc := 107) (v := 400) k118_107 (by decide) ?_
    refine q_iload_n (pc := 110) k118_110 rfl ?_
    refine q_imul (pc := 111) k118_111 ?_
    refine q_aload_n (pc := 112) k118_112 rfl ?_
    refine q_getR (pc := 113) k118_113 fg118_46 rfl rfl ?_
    refine q_iload_n (pc := 116) k118_116 rfl ?_
    refine q_ialdv (pc := 117) (v := M1 110 (Int32.toNatClampNeg a3)) k118_117 rfl h.1 rfl ?_
    replace h := h.2
    refine q_iadd (pc := 118) k118_118 ?_
    refine q_ialdv (pc := 119) (v := M1 104 (Int32.toNatClampNeg ((400 * a3) + (M1 110 (Int32.toNatClampNeg a3))))) k118_119 rfl h.1 rfl ?_
    replace h := h.2
    refine q_iload (pc := 120) k118_120 rfl ?_
    refine q_ishr (pc := 122) k118_122 ?_
    refine q_iconst (pc := 123) (v := 1) k118_123 (by decide) ?_
    refine q_iand (pc := 124) k118_124 ?_
    refine q_iconst (pc := 125) (v := 1) k118_125 (by decide) ?_
    refine q_icmp_ne (pc := 126) 142 k118_126 (by decide) (fun g => ?_) (fun g => ?_)
    · replace h := h.1 g
      refine q_iinc (pc := 142) (v := a4 + 1) [some (.ref 97), none, none, some (.int a3), some (.int (a4 + 1))] k118_142 rfl rfl rfl (by decide) rfl ?_
      refine q_goto (pc := 145) 94 k118_145 (by decide) ?_
      exact h
    · replace h := h.2 g
      refine q_aload_n (pc := 129) k118_129 rfl ?_
      refine q_getR (pc := 130) k118_130 fg118_55 rfl rfl ?_
      refine q_iload (pc := 133) k118_133 rfl ?_
      refine q_dup2 (pc := 135) k118_135 rfl rfl ?_
      refine q_ialdv (pc := 136) (v := M1 113 (Int32.toNatClampNeg a4)) k118_136 rfl h.1 rfl ?_
      replace h := h.2
      refine q_iconst (pc := 137) (v := 1) k118_137 (by decide) ?_
      refine q_iload_n (pc := 138) k118_138 rfl ?_
      refine q_ishl (pc := 139) k118_139 ?_
      refine q_ior (pc := 140) k118_140 ?_
      refine q_iastv (pc := 141) (k := (Int32.toNatClampNeg a4)) k118_141 rfl h.1 rfl ?_
      replace h := h.2
      refine q_iinc (pc := 142) (v := a4 + 1) [some (.ref 97), none, none, some (.int a3), some (.int (a4 + 1))] k118_142 rfl rfl rfl (by decide) rfl ?_
      refine q_goto (pc := 145) 94 k118_145 (by decide) ?_
      exact h
set_option maxRecDepth 20000 in
theorem vc119 {X : Nat × (Nat → Int32)} {d : Nat} (hd : 0 < d) {M : q_M} {a1 a2 a3 : Int32} {K : q_M → Prop} (h : ((¬ a1 = (M 99 2)) → (q_Ex X d 119 19 [some (.ref 97), some (.int a1), some (.int a2), some (.int a3), some (.int 0), none, none] [] M (q_rn K))) ∧ ((a1 = (M 99 2)) → (q_Cv X (d - 1) 118 [.ref 97, .int a2] M (fun M1 => K M1)))) : q_Cv X d 119 [.ref 97, .int a1, .int a2, .int a3] M K := by
  show q_Ex X d 119 0 [some (.ref 97), some (.int a1), some (.int a2), some (.int a3), none, none, none] [] M (q_rn K)
  refine q_iload_n (pc := 0) k119_0 rfl ?_
  refine q_aload_n (pc := 1) k119_1 rfl ?_
  refine q_getR (pc := 2) k119_2 fg119_13 rfl rfl ?_
  refine q_iconst (pc := 5) (v := 2) k119_5 (by decide) ?_
  refine q_ialdv (pc := 6) (v := M 99 2) k119_6 rfl (by decide) rfl ?_
  refine q_icmp_ne (pc := 7) 16 k119_7 (by decide) (fun g => ?_) (fun g => ?_)
  · replace h := h.1 g
    refine q_iconst (pc := 16) (v := 0) k119_16 (by decide) ?_
    refine q_istore (pc := 17) [some (.ref 97), some (.int a1), some (.int a2), some (.int a3), some (.int 0), none, none] k119_17 rfl (by decide) rfl ?_
    exact h
  · replace h := h.2 g
    refine q_aload_n (pc := 10) k119_10 rfl ?_
    refine q_iload_n (pc := 11) k119_11 rfl ?_
    refine q_invV (pc := 12) (As := [.int a2]) (st := []) k119_12 lm119_153 ov118 rfl rfl rfl (q_cat rfl) (Nat.le_of_ble_eq_true rfl) hd h ?_
    rintro v M1 ⟨rfl, h⟩
    show q_Ex X d 119 (12 + 3) [some (.ref 97), some (.int a1), some (.int a2), some (.int a3), none, none, none] [] M1 _
    exact q_return (pc := 15) k119_15 rfl ⟨rfl, h⟩
set_option maxRecDepth 20000 in
theorem vc119_p19 {X : Nat × (Nat → Int32)} {d : Nat} (hd : 0 < d) {M : q_M} {a1 a2 a3 a4 : Int32} {K : q_M → Prop} (h : vp_in a1 3 ∧ ((((M 108 (Int32.toNatClampNeg a1)) ≤ a4) → (K M)) ∧ ((¬ (M 108 (Int32.toNatClampNeg a1)) ≤ a4) → (vp_in a1 3 ∧ (((0 ≤ (M 109 (Int32.toNatClampNeg a1))) → (vp_in ((400 * a1) + a4) 1200 ∧ (vp_in a1 3 ∧ (((¬ (M 107 (Int32.toNatClampNeg ((400 * a1) + a4))) = (M 109 (Int32.toNatClampNeg a1))) → (q_Ex X d 119 19 [some (.ref 97), some (.int a1), some (.int a2), some (.int a3), some (.int (a4 + 1)), none, none] [] M (q_rn K))) ∧ (((M 107 (Int32.toNatClampNeg ((400 * a1) + a4))) = (M 109 (Int32.toNatClampNeg a1))) → (vp_in ((400 * a1) + a4) 1200 ∧ (((((M 104 (Int32.toNatClampNeg ((400 * a1) + a4))) &&& a2) = 0) → (vp_in a1 3 ∧ (vp_in ((400 * a1) + a4) 1200 ∧ (vp_in ((400 * a1) + a4) 1200 ∧ (q_Cv X (d - 1) 119 [.ref 97, .int (a1 + 1), .int (a2 ||| (M 104 (Int32.toNatClampNeg ((400 * a1) + a4)))), .int (a3 ||| (1 <<< ((M 107 (Int32.toNatClampNeg ((400 * a1) + a4))) &&& 31)))] (q_set M 110 (Int32.toNatClampNeg a1) a4) (fun M1 => q_Ex X d 119 19 [some (.ref 97), some (.int a1), some (.int a2), some (.int a3), some (.int (a4 + 1)), none, none] [] M1 (q_rn K))))))) ∧ ((¬ ((M 104 (Int32.toNatClampNeg ((400 * a1) + a4))) &&& a2) = 0) → (q_Ex X d 119 19 [some (.ref 97), some (.int a1), some (.int a2), some (.int a3), some (.int (a4 + 1)), none, none] [] M (q_rn K)))))))))) ∧ ((¬ 0 ≤ (M 109 (Int32.toNatClampNeg a1))) → (vp_in ((400 * a1) + a4) 1200 ∧ (((¬ ((a3 >>> ((M 107 (Int32.toNatClampNeg ((400 * a1) + a4))) &&& 31)) &&& 1) = 0) → (q_Ex X d 119 19 [some (.ref 97), some (.int a1), some (.int a2), some (.int a3), some (.int (a4 + 1)), none, none] [] M (q_rn K))) ∧ ((((a3 >>> ((M 107 (Int32.toNatClampNeg ((400 * a1) + a4))) &&& 31)) &&& 1) = 0) → (vp_in ((400 * a1) + a4) 1200 ∧ (((((M 104 (Int32.toNatClampNeg ((400 * a1) + a4))) &&& a2) = 0) → (vp_in a1 3 ∧ (vp_in ((400 * a1) + a4) 1200 ∧ (vp_in ((400 * a1) + a4) 1200 ∧ (q_Cv X (d - 1) 119 [.ref 97, .int (a1 + 1), .int (a2 ||| (M 104 (Int32.toNatClampNeg ((400 * a1) + a4)))), .int (a3 ||| (1 <<< ((M 107 (Int32.toNatClampNeg ((400 * a1) + a4))) &&& 31)))] (q_set M 110 (Int32.toNatClampNeg a1) a4) (fun M2 => q_Ex X d 119 19 [some (.ref 97), some (.int a1), some (.int a2), some (.int a3), some (.int (a4 + 1)), none, none] [] M2 (q_rn K))))))) ∧ ((¬ ((M 104 (Int32.toNatClampNeg ((400 * a1) + a4))) &&& a2) = 0) → (q_Ex X d 119 19 [some (.ref 97), some (.int a1), some (.int a2), some (.int a3), some (.int (a4 + 1)), none, none] [] M (q_rn K)))))))))))))) : q_Ex X d 119 19 [some (.ref 97), some (.int a1), some (.int a2), some (.int a3), some (.int a4), none, none] [] M (q_rn K) := by
  refine q_iload (pc := 19) k119_19 rfl ?_
  refine q_aload_n (pc := 21) k119_21 rfl ?_
  refine q_getR (pc := 22) k119_22 fg119_40 rfl rfl ?_
  refine q_iload_n (pc := 25) k119_25 rfl ?_
  refine q_ialdv (pc := 26) (v := M 108 (Int32.toNatClampNeg a1)) k119_26 rfl h.1 rfl ?_
  replace h := h.2
  refine q_icmp_ge (pc := 27) 155 k119_27 (by decide) (fun g => ?_) (fun g => ?_)
  · replace h := h.1 g
    exact q_return (pc := 155) k119_155 rfl ⟨rfl, h⟩
  · replace h := h.2 g
    refine q_sipush (pc := 30) (v := 400) k119_30 (by decide) ?_
    refine q_iload_n (pc := 33) k119_33 rfl ?_
    refine q_imul (pc := 34) k119_34 ?_
    refine q_iload (pc := 35) k119_35 rfl ?_
    refine q_iadd (pc := 37) k119_37 ?_
    refine q_istore (pc := 38) [some (.ref 97), some (.int a1), some (.int a2), some (.int a3), some (.int a4), some (.int ((400 * a1) + a4)), none] k119_38 rfl (by decide) rfl ?_
    refine q_aload_n (pc := 40) k119_40 rfl ?_
    refine q_getR (pc := 41) k119_41 fg119_43 rfl rfl ?_
    refine q_iload_n (pc := 44) k119_44 rfl ?_
    refine q_ialdv (pc := 45) (v := M 109 (Int32.toNatClampNeg a1)) k119_45 rfl h.1 rfl ?_
    replace h := h.2
    refine q_if_ge (pc := 46) 71 k119_46 (by decide) (fun g => ?_) (fun g => ?_)
    · replace h := h.1 g
      refine q_aload_n (pc := 71) k119_71 rfl ?_
      refine q_getR (pc := 72) k119_72 fg119_37 rfl rfl ?_
      refine q_iload (pc := 75) k119_75 rfl ?_
      refine q_ialdv (pc := 77) (v := M 107 (Int32.toNatClampNeg ((400 * a1) + a4))) k119_77 rfl h.1 rfl ?_
      replace h := h.2
      refine q_aload_n (pc := 78) k119_78 rfl ?_
      refine q_getR (pc := 79) k119_79 fg119_43 rfl rfl ?_
      refine q_iload_n (pc := 82) k119_82 rfl ?_
      refine q_ialdv (pc := 83) (v := M 109 (Int32.toNatClampNeg a1)) k119_83 rfl h.1 rfl ?_
      replace h := h.2
      refine q_icmp_ne (pc := 84) 91 k119_84 (by decide) (fun g => ?_) (fun g => ?_)
      · replace h := h.1 g
        refine q_iconst (pc := 91) (v := 0) k119_91 (by decide) ?_
        refine q_istore (pc := 92) [some (.ref 97), some (.int a1), some (.int a2), some (.int a3), some (.int a4), some (.int ((400 * a1) + a4)), some (.int 0)] k119_92 rfl (by decide) rfl ?_
        refine q_iload (pc := 94) k119_94 rfl ?_
        refine q_if_eq (pc := 96) 149 k119_96 (by decide) (fun _ => ?_) (fun g => absurd g (by decide))
        refine q_iinc (pc := 149) (v := a4 + 1) [some (.ref 97), some (.int a1), some (.int a2), some (.int a3), some (.int (a4 + 1)), some (.int ((400 * a1) + a4)), some (.int 0)] k119_149 rfl rfl rfl (by decide) rfl ?_
        refine q_goto (pc := 152) 19 k119_152 (by decide) ?_
        exact q_forget [some (.ref 97), some (.int a1), some (.int a2), some (.int a3), some (.int (a4 + 1)), none, none] (q_subOk (And.intro rfl (And.intro rfl (And.intro rfl (And.intro rfl (And.intro rfl (trivial))))))) h
      · replace h := h.2 g
        refine q_iconst (pc := 87) (v := 1) k119_87 (by decide) ?_
        refine q_goto (pc := 88) 92 k119_88 (by decide) ?_
        refine q_istore (pc := 92) [some (.ref 97), some (.int a1), some (.int a2), some (.int a3), some (.int a4), some (.int ((400 * a1) + a4)), some (.int 1)] k119_92 rfl (by decide) rfl ?_
        refine q_iload (pc := 94) k119_94 rfl ?_
        refine q_if_eq (pc := 96) 149 k119_96 (by decide) (fun g => absurd g (by decide)) (fun _ => ?_)
        refine q_aload_n (pc := 99) k119_99 rfl ?_
        refine q_getR (pc := 100) k119_100 fg119_28 rfl rfl ?_
        refine q_iload (pc := 103) k119_103 rfl ?_
        refine q_ialdv (pc := 105) (v := M 104 (Int32.toNatClampNeg ((400 * a1) + a4))) k119_105 rfl h.1 rfl ?_
        replace h := h.2
        refine q_iload_n (pc := 106) k119_106 rfl ?_
        refine q_iand (pc := 107) k119_107 ?_
        refine q_if_eq (pc := 108) 114 k119_108 (by decide) (fun g => ?_) (fun g => ?_)
        · replace h := h.1 g
          refine q_aload_n (pc := 114) k119_114 rfl ?_
          refine q_getR (pc := 115) k119_115 fg119_46 rfl rfl ?_
          refine q_iload_n (pc := 118) k119_118 rfl ?_
          refine q_iload (pc := 119) k119_119 rfl ?_
          refine q_iastv (pc := 121) (k := (Int32.toNatClampNeg a1)) k119_121 rfl h.1 rfl ?_
          replace h := h.2
          refine q_aload_n (pc := 122) k119_122 rfl ?_
          refine q_iload_n (pc := 123) k119_123 rfl ?_
          refine q_iconst (pc := 124) (v := 1) k119_124 (by decide) ?_
          refine q_iadd (pc := 125) k119_125 ?_
          refine q_iload_n (pc := 126) k119_126 rfl ?_
          refine q_aload_n (pc := 127) k119_127 rfl ?_
          refine q_getR (pc := 128) k119_128 fg119_28 rfl rfl ?_
          refine q_iload (pc := 131) k119_131 rfl ?_
          refine q_ialdv (pc := 133) (v := M 104 (Int32.toNatClampNeg ((400 * a1) + a4))) k119_133 rfl h.1 rfl ?_
          replace h := h.2
          refine q_ior (pc := 134) k119_134 ?_
          refine q_iload_n (pc := 135) k119_135 rfl ?_
          refine q_iconst (pc := 136) (v := 1) k119_136 (by decide) ?_
          refine q_aload_n (pc := 137) k119_137 rfl ?_
          refine q_getR (pc := 138) k119_138 fg119_37 rfl rfl ?_
          refine q_iload (pc := 141) k119_141 rfl ?_
          refine q_ialdv (pc := 143) (v := M 107 (Int32.toNatClampNeg ((400 * a1) + a4))) k119_143 rfl h.1 rfl ?_
          replace h := h.2
          refine q_ishl (pc := 144) k119_144 ?_
          refine q_ior (pc := 145) k119_145 ?_
          refine q_invV (pc := 146) (As := [.int (a1 + 1), .int (a2 ||| (M 104 (Int32.toNatClampNeg ((400 * a1) + a4)))), .int (a3 ||| (1 <<< ((M 107 (Int32.toNatClampNeg ((400 * a1) + a4))) &&& 31)))]) (st := []) k119_146 lm119_157 ov119 rfl rfl rfl (q_cat rfl) (Nat.le_of_ble_eq_true rfl) hd h ?_
          rintro v M1 ⟨rfl, h⟩
          show q_Ex X d 119 (146 + 3) [some (.ref 97), some (.int a1), some (.int a2), some (.int a3), some (.int a4), some (.int ((400 * a1) + a4)), some (.int 1)] [] M1 _
          refine q_iinc (pc := 149) (v := a4 + 1) [some (.ref 97), some (.int a1), some (.int a2), some (.int a3), some (.int (a4 + 1)), some (.int ((400 * a1) + a4)), some (.int 1)] k119_149 rfl rfl rfl (by decide) rfl ?_
          refine q_goto (pc := 152) 19 k119_152 (by decide) ?_
          exact q_forget [some (.ref 97), some (.int a1), some (.int a2), some (.int a3), some (.int (a4 + 1)), none, none] (q_subOk (And.intro rfl (And.intro rfl (And.intro rfl (And.intro rfl (And.intro rfl (trivial))))))) h
        · replace h := h.2 g
          refine q_goto (pc := 111) 149 k119_111 (by decide) ?_
          refine q_iinc (pc := 149) (v := a4 + 1) [some (.ref 97), some (.int a1), some (.int a2), some (.int a3), some (.int (a4 + 1)), some (.int ((400 * a1) + a4)), some (.int 1)] k119_149 rfl rfl rfl (by decide) rfl ?_
          refine q_goto (pc := 152) 19 k119_152 (by decide) ?_
          exact q_forget [some (.ref 97), some (.int a1), some (.int a2), some (.int a3), some (.int (a4 + 1)), none, none] (q_subOk (And.intro rfl (And.intro rfl (And.intro rfl (And.intro rfl (And.intro rfl (trivial))))))) h
    · replace h := h.2 g
      refine q_iload_n (pc := 49) k119_49 rfl ?_
      refine q_aload_n (pc := 50) k119_50 rfl ?_
      refine q_getR (pc := 51) k119_51 fg119_37 rfl rfl ?_
      refine q_iload (pc := 54) k119_54 rfl ?_
      refine q_ialdv (pc := 56) (v := M 107 (Int32.toNatClampNeg ((400 * a1) + a4))) k119_56 rfl h.1 rfl ?_
      replace h := h.2
      refine q_ishr (pc := 57) k119_57 ?_
      refine q_iconst (pc := 58) (v := 1) k119_58 (by decide) ?_
      refine q_iand (pc := 59) k119_59 ?_
      refine q_if_ne (pc := 60) 67 k119_60 (by decide) (fun g => ?_) (fun g => ?_)
      · replace h := h.1 g
        refine q_iconst (pc := 67) (v := 0) k119_67 (by decide) ?_
        refine q_goto (pc := 68) 92 k119_68 (by decide) ?_
        refine q_istore (pc := 92) [some (.ref 97), some (.int a1), some (.int a2), some (.int a3), some (.int a4), some (.int ((400 * a1) + a4)), some (.int 0)] k119_92 rfl (by decide) rfl ?_
        refine q_iload (pc := 94) k119_94 rfl ?_
        refine q_if_eq (pc := 96) 149 k119_96 (by decide) (fun _ => ?_) (fun g => absurd g (by decide))
        refine q_iinc (pc := 149) (v := a4 + 1) [some (.ref 97), some (.int a1), some (.int a2), some (.int a3), some (.int (a4 + 1)), some (.int ((400 * a1) + a4)), some (.int 0)] k119_149 rfl rfl rfl (by decide) rfl ?_
        refine q_goto (pc := 152) 19 k119_152 (by decide) ?_
        exact q_forget [some (.ref 97), some (.int a1), some (.int a2), some (.int a3), some (.int (a4 + 1)), none, none] (q_subOk (And.intro rfl (And.intro rfl (And.intro rfl (And.intro rfl (And.intro rfl (trivial))))))) h
      · replace h := h.2 g
        refine q_iconst (pc := 63) (v := 1) k119_63 (by decide) ?_
        refine q_goto (pc := 64) 92 k119_64 (by decide) ?_
        refine q_istore (pc := 92) [some (.ref 97), some (.int a1), some (.int a2), some (.int a3), some (.int a4), some (.int ((400 * a1) + a4)), some (.int 1)] k119_92 rfl (by decide) rfl ?_
        refine q_iload (pc := 94) k119_94 rfl ?_
        refine q_if_eq (pc := 96) 149 k119_96 (by decide) (fun g => absurd g (by decide)) (fun _ => ?_)
        refine q_aload_n (pc := 99) k119_99 rfl ?_
        refine q_getR (pc := 100) k119_100 fg119_28 rfl rfl ?_
        refine q_iload (pc := 103) k119_103 rfl ?_
        refine q_ialdv (pc := 105) (v := M 104 (Int32.toNatClampNeg ((400 * a1) + a4))) k119_105 rfl h.1 rfl ?_
        replace h := h.2
        refine q_iload_n (pc := 106) k119_106 rfl ?_
        refine q_iand (pc := 107) k119_107 ?_
        refine q_if_eq (pc := 108) 114 k119_108 (by decide) (fun g => ?_) (fun g => ?_)
        · replace h := h.1 g
          refine q_aload_n (pc := 114) k119_114 rfl ?_
          refine q_getR (pc := 115) k119_115 fg119_46 rfl rfl ?_
          refine q_iload_n (pc := 118) k119_118 rfl ?_
          refine q_iload (pc := 119) k119_119 rfl ?_
          refine q_iastv (pc := 121) (k := (Int32.toNatClampNeg a1)) k119_121 rfl h.1 rfl ?_
          replace h := h.2
          refine q_aload_n (pc := 122) k119_122 rfl ?_
          refine q_iload_n (pc := 123) k119_123 rfl ?_
          refine q_iconst (pc := 124) (v := 1) k119_124 (by decide) ?_
          refine q_iadd (pc := 125) k119_125 ?_
          refine q_iload_n (pc := 126) k119_126 rfl ?_
          refine q_aload_n (pc := 127) k119_127 rfl ?_
          refine q_getR (pc := 128) k119_128 fg119_28 rfl rfl ?_
          refine q_iload (pc := 131) k119_131 rfl ?_
          refine q_ialdv (pc := 133) (v := M 104 (Int32.toNatClampNeg ((400 * a1) + a4))) k119_133 rfl h.1 rfl ?_
          replace h := h.2
          refine q_ior (pc := 134) k119_134 ?_
          refine q_iload_n (pc := 135) k119_135 rfl ?_
          refine q_iconst (pc := 136) (v := 1) k119_136 (by decide) ?_
          refine q_aload_n (pc := 137) k119_137 rfl ?_
          refine q_getR (pc := 138) k119_138 fg119_37 rfl rfl ?_
          refine q_iload (pc := 141) k119_141 rfl ?_
          refine q_ialdv (pc := 143) (v := M 107 (Int32.toNatClampNeg ((400 * a1) + a4))) k119_143 rfl h.1 rfl ?_
          replace h := h.2
          refine q_ishl (pc := 144) k119_144 ?_
          refine q_ior (pc := 145) k119_145 ?_
          refine q_invV (pc := 146) (As := [.int (a1 + 1), .int (a2 ||| (M 104 (Int32.toNatClampNeg ((400 * a1) + a4)))), .int (a3 ||| (1 <<< ((M 107 (Int32.toNatClampNeg ((400 * a1) + a4))) &&& 31)))]) (st := []) k119_146 lm119_157 ov119 rfl rfl rfl (q_cat rfl) (Nat.le_of_ble_eq_true rfl) hd h ?_
          rintro v M2 ⟨rfl, h⟩
          show q_Ex X d 119 (146 + 3) [some (.ref 97), some (.int a1), some (.int a2), some (.int a3), some (.int a4), some (.int ((400 * a1) + a4)), some (.int 1)] [] M2 _
          refine q_iinc (pc := 149) (v := a4 + 1) [some (.ref 97), some (.int a1), some (.int a2), some (.int a3), some (.int (a4 + 1)), some (.int ((400 * a1) + a4)), some (.int 1)] k119_149 rfl rfl rfl (by decide) rfl ?_
          refine q_goto (pc := 152) 19 k119_152 (by decide) ?_
          exact q_forget [some (.ref 97), some (.int a1), some (.int a2), some (.int a3), some (.int (a4 + 1)), none, none] (q_subOk (And.intro rfl (And.intro rfl (And.intro rfl (And.intro rfl (And.intro rfl (trivial))))))) h
        · replace h := h.2 g
          refine q_goto (pc := 111) 149 k119_111 (by decide) ?_
          refine q_iinc (pc := 149) (v := a4 + 1) [some (.ref 97), some (.int a1), some (.int a2), some (.int a3), some (.int (a4 + 1)), some (.int ((400 * a1) + a4)), some (.int 1)] k119_149 rfl rfl rfl (by decide) rfl ?_
          refine q_goto (pc := 152) 19 k119_152 (by decide) ?_
          exact q_forget [some (.ref 97), some (.int a1), some (.int a2), some (.int a3), some (.int (a4 + 1)), none, none] (q_subOk (And.intro rfl (And.intro rfl (And.intro rfl (And.intro rfl (And.intro rfl (trivial))))))) h
