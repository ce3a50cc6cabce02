/-! what is gathered of families, and the reference's gathering -/
def f_bits (f : List (List Nat)) : Nat := g_bits f.flatten
def f_cost (co : Nat → Nat) (b : Nat) : Nat → Nat
  | 0 => 0
  | N + 1 => f_cost co b N + (if b.testBit N then co N else 0)
def f_who : Nat → List (List Nat) → Nat → Nat
  | _, [], _ => 0
  | d, p :: r, c => (if (g_bits p).testBit c then 2 ^ d else 0) ||| f_who (d + 1) r c
def z_cnt (F : List (List (List Nat))) (c : Nat) : Nat := (F.filter (fun f => (f_bits f).testBit c)).length
def z_who (F : List (List (List Nat))) (c : Nat) : Nat := F.foldl (fun a f => a ||| f_who 0 f c) 0
def z_fit (F : List (List (List Nat))) (sb : Nat) : Nat := (F.filter (fun f => f_bits f &&& sb == sb)).length
def z_mn (a : Option Nat) (x : Nat) : Option Nat := match a with
  | none => some x
  | some m => if x < m then some x else some m
def z_least (co : Nat → Nat) (N : Nat) (F : List (List (List Nat))) : Option Nat := F.foldl (fun a f => z_mn a (f_cost co (f_bits f) N)) none
theorem z_cnt_push (F : List (List (List Nat))) (f : List (List Nat)) (c : Nat) : z_cnt (F ++ [f]) c = z_cnt F c + (if (f_bits f).testBit c then 1 else 0) := by
  unfold z_cnt
  rw [List.filter_append, List.length_append]
  by_cases h : (f_bits f).testBit c = true <;> simp [h]
theorem z_fit_push (F : List (List (List Nat))) (f : List (List Nat)) (sb : Nat) : z_fit (F ++ [f]) sb = z_fit F sb + (if f_bits f &&& sb == sb then 1 else 0) := by
  unfold z_fit
  rw [List.filter_append, List.length_append]
  by_cases h : (f_bits f &&& sb == sb) = true <;> simp [h]
theorem z_who_push (F : List (List (List Nat))) (f : List (List Nat)) (c : Nat) : z_who (F ++ [f]) c = z_who F c ||| f_who 0 f c := by unfold z_who; rw [List.foldl_append]; rfl
theorem z_least_push (co : Nat → Nat) (N : Nat) (F : List (List (List Nat))) (f : List (List Nat)) : z_least co N (F ++ [f]) = z_mn (z_least co N F) (f_cost co (f_bits f) N) := by unfold z_least; rw [List.foldl_append]; rfl
theorem z_cnt_le (F : List (List (List Nat))) (c : Nat) : z_cnt F c ≤ F.length := List.length_filter_le _ _
theorem z_fit_le (F : List (List (List Nat))) (c : Nat) : z_fit F c ≤ F.length := List.length_filter_le _ _
theorem f_cost_le {co : Nat → Nat} {b : Nat} : ∀ (N : Nat), (∀ c, c < N → co c ≤ 9) → f_cost co b N ≤ 9 * N := by
  intro N
  induction N with
  | zero => intro _; exact Nat.le_refl 0
  | succ N ih =>
    intro h
    have h1 := ih (fun c hc => h c (by omega))
    have h2 := h N (by omega)
    unfold f_cost
    split <;> omega
theorem f_who_lt (f : List (List Nat)) (c : Nat) : ∀ d, f_who d f c < 2 ^ (d + f.length) := by
  induction f with
  | nil => intro d; exact Nat.two_pow_pos _
  | cons p r ih =>
    intro d
    unfold f_who
    have h := ih (d + 1)
    rw [show d + 1 + r.length = d + (p :: r).length by simp; omega] at h
    refine Nat.or_lt_two_pow ?_ h
    split
    · exact Nat.pow_lt_pow_right (by decide) (by simp)
    · exact Nat.two_pow_pos _
theorem f_who_snoc (f : List (List Nat)) (p : List Nat) (c : Nat) : ∀ d, f_who d (f ++ [p]) c = f_who d f c ||| (if (g_bits p).testBit c then 2 ^ (d + f.length) else 0) := by
  induction f with
  | nil => intro d; simp [f_who]
  | cons q r ih =>
    intro d
    simp only [List.cons_append, f_who, ih (d + 1), Nat.or_assoc, List.length_cons]
    rw [show d + 1 + r.length = d + (r.length + 1) by omega]
theorem z_who_lt {n : Nat} (F : List (List (List Nat))) (c : Nat) (h : ∀ f ∈ F, f.length ≤ n) : z_who F c < 2 ^ n := by
  unfold z_who
  have : ∀ (G : List (List (List Nat))) (a : Nat), a < 2 ^ n → (∀ f ∈ G, f.length ≤ n) → G.foldl (fun a f => a ||| f_who 0 f c) a < 2 ^ n := by
    intro G
    induction G with
    | nil => intro a ha _; exact ha
    | cons f r ih =>
      intro a ha hG
      refine ih _ (Nat.or_lt_two_pow ha (Nat.lt_of_lt_of_le (f_who_lt f c 0) (Nat.pow_le_pow_right (by decide) ?_))) (fun g hg => hG g (List.mem_cons_of_mem _ hg))
      have := hG f List.mem_cons_self
      omega
  exact this F 0 (Nat.two_pow_pos n) h
/-- what the reference has gathered of the families F: wanted is wk (none or a number) -/
def z_at (M : q_M) (n N : Nat) (co : Nat → Nat) (W : Nat → List (List Nat)) (sb : Nat) (wk : Option Nat) (F : List (List (List Nat))) : Prop :=
  M 97 20 = nI F.length ∧ M 97 21 = g_oj (z_least co N F) ∧ M 97 22 = nI (z_fit F sb) ∧ M 97 23 = g_oj wk ∧ M 97 24 = nI sb ∧ (∀ c, c < N → M 112 c = nI (z_cnt F c) ∧ M 113 c = nI (z_who F c)) ∧
  ∀ k f, wk = some k → F[k]? = some f → ∀ d, d < n → ∃ i, M 111 d = nI i ∧ i < (W d).length ∧ (W d)[i]? = f[d]?
section Gath
variable {X : Nat × (Nat → Int32)} {R C n : Nat} {kd co nu dc wc : Nat → Nat}
theorem n_bitN {a c : Nat} (ha : a < 2 ^ 31) (hc : c < 32) : ((nI a >>> (nI c &&& 31)) &&& 1) = nI (if a.testBit c then 1 else 0) := by
  rw [n_bit ha hc]
  congr 1
  have h := Nat.mod_lt (a / 2 ^ c) (show 0 < 2 by decide)
  by_cases h1 : a / 2 ^ c % 2 = 1
  · rw [if_pos (by rw [Nat.testBit_eq_decide_div_mod_eq]; simpa using h1)]; exact h1
  · rw [if_neg (by rw [Nat.testBit_eq_decide_div_mod_eq]; simpa using h1)]; omega
theorem r_costOf (hw : r_wf R C n kd nu dc wc) {d b : Nat} {M : q_M} {K : Int32 → q_M → Prop} (hd : 0 < d) (hb : r_b M R C n kd co nu) (hco : ∀ c, c < R * C → co c ≤ 9) (hbl : b < 2 ^ 31) (h : K (nI (f_cost co b (R * C))) M) : q_Ci X d 117 [.ref 97, .int (nI b)] M K := by
  have hRC := r_RC hw
  refine vc117 ?_
  have loop : ∀ (j i : Nat), i + j = R * C → q_Ex X d 117 4 [some (.ref 97), some (.int (nI b)), some (.int (nI (f_cost co b i))), some (.int (nI i))] [] M (q_ri K) := by
    intro j
    induction j with
    | zero =>
      intro i hi
      refine vc117_p4 hd (r_cells hb ⟨fun _ => ?_, fun g => absurd ((q_le (by omega) (by omega)).mpr (by omega)) g⟩)
      rw [show i = R * C by omega]; exact h
    | succ j ih =>
      intro i hi
      have hi2 : i < R * C := by omega
      refine vc117_p4 hd (r_cells hb ⟨fun g => absurd ((q_le (by omega) (by omega)).mp g) (by omega), fun _ => ?_⟩)
      refine r_cost (by omega) ?_
      rw [(hb.2.2.2 i hi2).2.1, n_bitN hbl (by omega), pk_mul, nI_add, nI_1]
      have e : f_cost co b i + (if b.testBit i then 1 else 0) * co i = f_cost co b (i + 1) := by
        show _ = f_cost co b i + (if b.testBit i then co i else 0)
        split <;> simp
      rw [e]
      exact ih (i + 1) (by omega)
  exact loop (R * C) 0 (by omega)
end Gath
