section Wraps
variable {X : Nat × (Nat → Int32)} {d i pc : Nat} {als : List (Option Value)} {st : List Value} {M : q_M} {Q : Option Value → q_M → Prop}
theorem q_getIv {idx ci k r : Nat} {fs : List (Option Nat)} {v : Int32} (hd : decode (q_mB i) pc = .ok (.getfield idx, 3)) (hf : q_fok i idx ci k) (hr : q_lay[r]? = some (.inl (ci, fs))) (hk' : fs[k]? = some none) (hv : M r k = v) (h : q_Ex X d i (pc + 3) als (.int v :: st) M Q) : q_Ex X d i pc als (.ref r :: st) M Q := by
  subst hv; exact q_getI hd hf hr hk' h
theorem q_ialdv {r n : Nat} {x v : Int32} (hd : decode (q_mB i) pc = .ok (.iaload, 1)) (hr : q_lay[r]? = some (.inr (.inl n))) (hx : vp_in x n) (hv : M r x.toNatClampNeg = v) (h : q_Ex X d i (pc + 1) als (.int v :: st) M Q) : q_Ex X d i pc als (.int x :: .ref r :: st) M Q := by
  subst hv; exact q_iald hd hr hx h
theorem q_raldv {j : Nat} {x v : Int32} (hd : decode (q_mB i) pc = .ok (.iaload, 1)) (hj : j < 4) (hx : vp_in x (q_rc X j).1) (hv : (q_rc X j).2 x.toNatClampNeg = v) (h : q_Ex X d i (pc + 1) als (.int v :: st) M Q) : q_Ex X d i pc als (.int x :: .ref (1000 + j) :: st) M Q := by
  subst hv; exact q_rald hd hj hx h
theorem q_iastv {r n k : Nat} {x y : Int32} (hd : decode (q_mB i) pc = .ok (.iastore, 1)) (hr : q_lay[r]? = some (.inr (.inl n))) (hx : vp_in x n) (hk : x.toNatClampNeg = k) (h : q_Ex X d i (pc + 1) als st (q_set M r k y) Q) : q_Ex X d i pc als (.int y :: .int x :: .ref r :: st) M Q := by
  subst hk; exact q_iast hd hr hx h
theorem q_aaldv {r b n t : Nat} {x : Int32} (hd : decode (q_mB i) pc = .ok (.aaload, 1)) (hr : q_lay[r]? = some (.inr (.inr (b, n)))) (hx : vp_in x n) (ht : b + x.toNatClampNeg = t) (h : q_Ex X d i (pc + 1) als (.ref t :: st) M Q) : q_Ex X d i pc als (.int x :: .ref r :: st) M Q := by
  subst ht; exact q_aald hd hr hx h
theorem q_copyv {idx r t n0 n1 : Nat} {sp dp n : Int32} {f : Nat → Int32} (hd : decode (q_mB i) pc = .ok (.invokestatic idx, 3)) (hw : Cond.methodLink (q_mY i).cls idx arraycopyName ∈ goodTbl) (hw2 : Cond.native arraycopyName ∈ goodTbl ∧ Cond.static arraycopyName ∈ goodTbl ∧ Cond.initialized "java/lang/System" ∈ goodTbl) (hr : q_lay[r]? = some (.inr (.inl n0))) (ht : q_lay[t]? = some (.inr (.inl n1))) (hsp : sp = 0) (hdp : dp = 0) (h3 : ¬ n < 0) (h4 : n.toNatClampNeg ≤ n0) (h5 : n.toNatClampNeg ≤ n1) (hst : (st.map fun v => v.category).sum ≤ 8) (hf : va_cpy (M r) (M t) 0 0 n.toNatClampNeg = f) (h : q_Ex X d i (pc + 3) als st (q_row M t f) Q) : q_Ex X d i pc als (.int n :: .int dp :: .ref t :: .int sp :: .ref r :: st) M Q := by
  subst hf; exact q_copy hd hw hw2 hr ht hsp hdp h3 h4 h5 hst h
theorem q_vin {x : Int32} {n : Nat} (h : ¬ (x < 0 ∨ n ≤ x.toNatClampNeg)) : vp_in x n := h
theorem q_cat {As : List Value} (h : (As.all fun v => v.category == 1) = true) : ∀ v ∈ As, v.category = 1 := fun v hv => by simpa using List.all_eq_true.mp h v hv
def q_sub : List (Option Value) → List (Option Value) → Prop
  | [], _ => True
  | none :: a, _ :: b => q_sub a b
  | some v :: a, some w :: b => v = w ∧ q_sub a b
  | _, _ => False
theorem q_subOk : ∀ {a b : List (Option Value)}, q_sub a b → ∀ (k : Nat) (v : Value), a[k]? = some (some v) → b[k]? = some (some v)
  | [], _, _, k, v, hk => by simp at hk
  | none :: a, [], h, k, v, hk => h.elim
  | none :: a, _ :: b, h, 0, v, hk => by simp at hk
  | none :: a, _ :: b, h, k + 1, v, hk => by
    have := q_subOk (a := a) (b := b) h k v (by simpa using hk)
    simpa using this
  | some x :: a, [], h, k, v, hk => h.elim
  | some x :: a, none :: b, h, k, v, hk => h.elim
  | some x :: a, some w :: b, h, 0, v, hk => by
    have e : x = w := h.1
    simp at hk
    simp [← hk, e]
  | some x :: a, some w :: b, h, k + 1, v, hk => by
    have := q_subOk (a := a) (b := b) h.2 k v (by simpa using hk)
    simpa using this
def q_CV (X : Nat × (Nat → Int32)) (d i idx r : Nat) (As : List Value) (M : q_M) (K : Int32 → q_M → Prop) : Prop := ∃ (ci : Nat) (fs : List (Option Nat)) (j np : Nat), q_lay[r]? = some (.inl (ci, fs)) ∧ As.length = np ∧ ((Cond.methodLink (q_mY i).cls idx (q_mY j) ∈ goodTbl ∧ q_okV j np ci) ∨ q_okU i idx j np ci) ∧ q_Ci X d j (.ref r :: As) M K
theorem q_invC {idx r : Nat} {As st0 : List Value} {K : Int32 → q_M → Prop} (hd : decode (q_mB i) pc = .ok (.invokevirtual idx, 3)) (hst : st0 = As.reverse ++ .ref r :: st) (hcat : ∀ v ∈ As, v.category = 1) (hsum : (st.map fun v => v.category).sum ≤ 8) (hd0 : 0 < d) (h : q_CV X (d - 1) i idx r As M K) (kk : ∀ v M', K v M' → q_Ex X d i (pc + 3) als (.int v :: st) M' Q) : q_Ex X d i pc als st0 M Q := by
  obtain ⟨ci, fs, j, np, h1, h2, h3, h4⟩ := h
  rcases h3 with ⟨h3, h5⟩ | h3
  · refine q_invV hd h3 h5 h1 h2 hst hcat hsum hd0 h4 ?_
    rintro v M' ⟨r, rfl, h⟩
    exact kk r M' h
  · refine q_invU hd h3 h1 h2 hst hcat hsum hd0 h4 ?_
    rintro v M' ⟨r, rfl, h⟩
    exact kk r M' h
end Wraps
theorem rw20 {x : Int32} (g : vp_in x 3) : q_lay[21 + Int32.toNatClampNeg x]? = some (.inr (.inl 10)) := by
  obtain ⟨j, hj, rfl⟩ := vp_in_of g (by decide)
  rw [nI_clamp (by omega)]
  exact match j, hj with
  | 0, _ => rfl
  | 1, _ => rfl
  | 2, _ => rfl
  | t + 3, h => absurd h (by omega)
theorem rw34 {x : Int32} (g : vp_in x 3) : q_lay[35 + Int32.toNatClampNeg x]? = some (.inr (.inl 10)) := by
  obtain ⟨j, hj, rfl⟩ := vp_in_of g (by decide)
  rw [nI_clamp (by omega)]
  exact match j, hj with
  | 0, _ => rfl
  | 1, _ => rfl
  | 2, _ => rfl
  | t + 3, h => absurd h (by omega)
theorem rw46 {x : Int32} (g : vp_in x 3) : q_lay[47 + Int32.toNatClampNeg x]? = some (.inr (.inl 126)) := by
  obtain ⟨j, hj, rfl⟩ := vp_in_of g (by decide)
  rw [nI_clamp (by omega)]
  exact match j, hj with
  | 0, _ => rfl
  | 1, _ => rfl
  | 2, _ => rfl
  | t + 3, h => absurd h (by omega)
theorem rw50 {x : Int32} (g : vp_in x 3) : q_lay[51 + Int32.toNatClampNeg x]? = some (.inr (.inl 126)) := by
  obtain ⟨j, hj, rfl⟩ := vp_in_of g (by decide)
  rw [nI_clamp (by omega)]
  exact match j, hj with
  | 0, _ => rfl
  | 1, _ => rfl
  | 2, _ => rfl
  | t + 3, h => absurd h (by omega)
theorem rw56 {x : Int32} (g : vp_in x 3) : q_lay[57 + Int32.toNatClampNeg x]? = some (.inr (.inl 126)) := by
  obtain ⟨j, hj, rfl⟩ := vp_in_of g (by decide)
  rw [nI_clamp (by omega)]
  exact match j, hj with
  | 0, _ => rfl
  | 1, _ => rfl
  | 2, _ => rfl
  | t + 3, h => absurd h (by omega)
theorem rw60 {x : Int32} (g : vp_in x 3) : q_lay[61 + Int32.toNatClampNeg x]? = some (.inr (.inl 126)) := by
  obtain ⟨j, hj, rfl⟩ := vp_in_of g (by decide)
  rw [nI_clamp (by omega)]
  exact match j, hj with
  | 0, _ => rfl
  | 1, _ => rfl
  | 2, _ => rfl
  | t + 3, h => absurd h (by omega)
theorem rw68 {x : Int32} (g : vp_in x 9) : q_lay[69 + Int32.toNatClampNeg x]? = some (.inr (.inl 30)) := by
  obtain ⟨j, hj, rfl⟩ := vp_in_of g (by decide)
  rw [nI_clamp (by omega)]
  exact match j, hj with
  | 0, _ => rfl
  | 1, _ => rfl
  | 2, _ => rfl
  | 3, _ => rfl
  | 4, _ => rfl
  | 5, _ => rfl
  | 6, _ => rfl
  | 7, _ => rfl
  | 8, _ => rfl
  | t + 9, h => absurd h (by omega)
theorem rw78 {x : Int32} (g : vp_in x 9) : q_lay[79 + Int32.toNatClampNeg x]? = some (.inr (.inl 30)) := by
  obtain ⟨j, hj, rfl⟩ := vp_in_of g (by decide)
  rw [nI_clamp (by omega)]
  exact match j, hj with
  | 0, _ => rfl
  | 1, _ => rfl
  | 2, _ => rfl
  | 3, _ => rfl
  | 4, _ => rfl
  | 5, _ => rfl
  | 6, _ => rfl
  | 7, _ => rfl
  | 8, _ => rfl
  | t + 9, h => absurd h (by omega)
theorem cv1_28_42 {X : Nat × (Nat → Int32)} {d : Nat} {As : List Value} {M : q_M} {K : Int32 → q_M → Prop} (hn : As.length = 3) (h : q_Ci X d 0 (.ref 42 :: As) M K) : q_CV X d 1 28 42 As M K := ⟨0, [], 0, 3, rfl, hn, Or.inr ou1_28_0, h⟩
theorem cv1_28_41 {X : Nat × (Nat → Int32)} {d : Nat} {As : List Value} {M : q_M} {K : Int32 → q_M → Prop} (hn : As.length = 3) (h : q_Ci X d 14 (.ref 41 :: As) M K) : q_CV X d 1 28 41 As M K := ⟨3, [], 14, 3, rfl, hn, Or.inr ou1_28_3, h⟩
theorem cv1_28_39 {X : Nat × (Nat → Int32)} {d : Nat} {As : List Value} {M : q_M} {K : Int32 → q_M → Prop} (hn : As.length = 3) (h : q_Ci X d 14 (.ref 39 :: As) M K) : q_CV X d 1 28 39 As M K := ⟨4, [], 14, 3, rfl, hn, Or.inr ou1_28_4, h⟩
theorem cv1_28_43 {X : Nat × (Nat → Int32)} {d : Nat} {As : List Value} {M : q_M} {K : Int32 → q_M → Prop} (hn : As.length = 3) (h : q_Ci X d 14 (.ref 43 :: As) M K) : q_CV X d 1 28 43 As M K := ⟨7, [], 14, 3, rfl, hn, Or.inr ou1_28_7, h⟩
theorem cv1_28_40 {X : Nat × (Nat → Int32)} {d : Nat} {As : List Value} {M : q_M} {K : Int32 → q_M → Prop} (hn : As.length = 3) (h : q_Ci X d 14 (.ref 40 :: As) M K) : q_CV X d 1 28 40 As M K := ⟨8, [], 14, 3, rfl, hn, Or.inr ou1_28_8, h⟩
theorem cv11_7_42 {X : Nat × (Nat → Int32)} {d : Nat} {As : List Value} {M : q_M} {K : Int32 → q_M → Prop} (hn : As.length = 3) (h : q_Ci X d 0 (.ref 42 :: As) M K) : q_CV X d 11 7 42 As M K := ⟨0, [], 0, 3, rfl, hn, Or.inr ou11_7_0, h⟩
theorem cv11_7_41 {X : Nat × (Nat → Int32)} {d : Nat} {As : List Value} {M : q_M} {K : Int32 → q_M → Prop} (hn : As.length = 3) (h : q_Ci X d 14 (.ref 41 :: As) M K) : q_CV X d 11 7 41 As M K := ⟨3, [], 14, 3, rfl, hn, Or.inr ou11_7_3, h⟩
theorem cv11_7_39 {X : Nat × (Nat → Int32)} {d : Nat} {As : List Value} {M : q_M} {K : Int32 → q_M → Prop} (hn : As.length = 3) (h : q_Ci X d 14 (.ref 39 :: As) M K) : q_CV X d 11 7 39 As M K := ⟨4, [], 14, 3, rfl, hn, Or.inr ou11_7_4, h⟩
theorem cv11_7_43 {X : Nat × (Nat → Int32)} {d : Nat} {As : List Value} {M : q_M} {K : Int32 → q_M → Prop} (hn : As.length = 3) (h : q_Ci X d 14 (.ref 43 :: As) M K) : q_CV X d 11 7 43 As M K := ⟨7, [], 14, 3, rfl, hn, Or.inr ou11_7_7, h⟩
theorem cv11_7_40 {X : Nat × (Nat → Int32)} {d : Nat} {As : List Value} {M : q_M} {K : Int32 → q_M → Prop} (hn : As.length = 3) (h : q_Ci X d 14 (.ref 40 :: As) M K) : q_CV X d 11 7 40 As M K := ⟨8, [], 14, 3, rfl, hn, Or.inr ou11_7_8, h⟩
theorem cv14_7_41 {X : Nat × (Nat → Int32)} {d : Nat} {As : List Value} {M : q_M} {K : Int32 → q_M → Prop} (hn : As.length = 3) (h : q_Ci X d 12 (.ref 41 :: As) M K) : q_CV X d 14 7 41 As M K := ⟨3, [], 12, 3, rfl, hn, Or.inr ou14_7_3, h⟩
theorem cv14_7_43 {X : Nat × (Nat → Int32)} {d : Nat} {As : List Value} {M : q_M} {K : Int32 → q_M → Prop} (hn : As.length = 3) (h : q_Ci X d 39 (.ref 43 :: As) M K) : q_CV X d 14 7 43 As M K := ⟨7, [], 39, 3, rfl, hn, Or.inr ou14_7_7, h⟩
theorem cv14_7_40 {X : Nat × (Nat → Int32)} {d : Nat} {As : List Value} {M : q_M} {K : Int32 → q_M → Prop} (hn : As.length = 3) (h : q_Ci X d 40 (.ref 40 :: As) M K) : q_CV X d 14 7 40 As M K := ⟨8, [], 40, 3, rfl, hn, Or.inr ou14_7_8, h⟩
theorem cv76_277_42 {X : Nat × (Nat → Int32)} {d : Nat} {As : List Value} {M : q_M} {K : Int32 → q_M → Prop} (hn : As.length = 3) (h : q_Ci X d 11 (.ref 42 :: As) M K) : q_CV X d 76 277 42 As M K := ⟨0, [], 11, 3, rfl, hn, Or.inr ou76_277_0, h⟩
theorem cv76_277_41 {X : Nat × (Nat → Int32)} {d : Nat} {As : List Value} {M : q_M} {K : Int32 → q_M → Prop} (hn : As.length = 3) (h : q_Ci X d 11 (.ref 41 :: As) M K) : q_CV X d 76 277 41 As M K := ⟨3, [], 11, 3, rfl, hn, Or.inr ou76_277_3, h⟩
theorem cv76_277_39 {X : Nat × (Nat → Int32)} {d : Nat} {As : List Value} {M : q_M} {K : Int32 → q_M → Prop} (hn : As.length = 3) (h : q_Ci X d 11 (.ref 39 :: As) M K) : q_CV X d 76 277 39 As M K := ⟨4, [], 11, 3, rfl, hn, Or.inr ou76_277_4, h⟩
theorem cv76_277_43 {X : Nat × (Nat → Int32)} {d : Nat} {As : List Value} {M : q_M} {K : Int32 → q_M → Prop} (hn : As.length = 3) (h : q_Ci X d 11 (.ref 43 :: As) M K) : q_CV X d 76 277 43 As M K := ⟨7, [], 11, 3, rfl, hn, Or.inr ou76_277_7, h⟩
theorem cv76_277_40 {X : Nat × (Nat → Int32)} {d : Nat} {As : List Value} {M : q_M} {K : Int32 → q_M → Prop} (hn : As.length = 3) (h : q_Ci X d 11 (.ref 40 :: As) M K) : q_CV X d 76 277 40 As M K := ⟨8, [], 11, 3, rfl, hn, Or.inr ou76_277_8, h⟩
theorem cv81_297_42 {X : Nat × (Nat → Int32)} {d : Nat} {As : List Value} {M : q_M} {K : Int32 → q_M → Prop} (hn : As.length = 3) (h : q_Ci X d 0 (.ref 42 :: As) M K) : q_CV X d 81 297 42 As M K := ⟨0, [], 0, 3, rfl, hn, Or.inr ou81_297_0, h⟩
theorem cv81_297_41 {X : Nat × (Nat → Int32)} {d : Nat} {As : List Value} {M : q_M} {K : Int32 → q_M → Prop} (hn : As.length = 3) (h : q_Ci X d 14 (.ref 41 :: As) M K) : q_CV X d 81 297 41 As M K := ⟨3, [], 14, 3, rfl, hn, Or.inr ou81_297_3, h⟩
theorem cv81_297_39 {X : Nat × (Nat → Int32)} {d : Nat} {As : List Value} {M : q_M} {K : Int32 → q_M → Prop} (hn : As.length = 3) (h : q_Ci X d 14 (.ref 39 :: As) M K) : q_CV X d 81 297 39 As M K := ⟨4, [], 14, 3, rfl, hn, Or.inr ou81_297_4, h⟩
theorem cv81_297_43 {X : Nat × (Nat → Int32)} {d : Nat} {As : List Value} {M : q_M} {K : Int32 → q_M → Prop} (hn : As.length = 3) (h : q_Ci X d 14 (.ref 43 :: As) M K) : q_CV X d 81 297 43 As M K := ⟨7, [], 14, 3, rfl, hn, Or.inr ou81_297_7, h⟩
theorem cv81_297_40 {X : Nat × (Nat → Int32)} {d : Nat} {As : List Value} {M : q_M} {K : Int32 → q_M → Prop} (hn : As.length = 3) (h : q_Ci X d 14 (.ref 40 :: As) M K) : q_CV X d 81 297 40 As M K := ⟨8, [], 14, 3, rfl, hn, Or.inr ou81_297_8, h⟩
