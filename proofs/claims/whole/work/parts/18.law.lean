
/-! orders and laws of the class -/
def o_at (p : Nat) : Nat := ([0, 10, 1, 210, 120, 201, 21, 102, 12] : List Nat).getD p 0
def o_st (n : Nat) : Nat := ([0, 0, 1, 3, 9] : List Nat).getD n 0
def o_en (n : Nat) : Nat := if n = 0 then 0 else o_st (n + 1)
theorem o_rc0 (X : Nat × (Nat → Int32)) {p : Nat} (h : p < 9) : (q_rc X 0).2 p = nI (o_at p) := (show ∀ p, p < 9 → ([0, 10, 1, 210, 120, 201, 21, 102, 12] : List Int32).getD p 0 = nI (o_at p) by decide +kernel) p h
theorem o_rc1 (X : Nat × (Nat → Int32)) {p : Nat} (h : p < 5) : (q_rc X 1).2 p = nI (o_st p) := (show ∀ p, p < 5 → ([0, 0, 1, 3, 9] : List Int32).getD p 0 = nI (o_st p) by decide +kernel) p h
theorem o_rc2 (X : Nat × (Nat → Int32)) {p : Nat} (h : p < 3) : (q_rc X 2).2 p = nI (10 ^ p) := (show ∀ p, p < 3 → ([1, 10, 100] : List Int32).getD p 0 = nI (10 ^ p) by decide +kernel) p h
theorem o_en9 {n : Nat} (h : n ≤ 3) : o_en n ≤ 9 := (show ∀ n, n < 4 → o_en n ≤ 9 by decide +kernel) n (by omega)
theorem o_sten {n : Nat} (h : n ≤ 3) : o_st n ≤ o_en n := (show ∀ n, n < 4 → o_st n ≤ o_en n by decide +kernel) n (by omega)
theorem o_lt {p : Nat} (h : p < 9) : o_at p < 1000 := (show ∀ p, p < 9 → o_at p < 1000 by decide +kernel) p h
theorem o_inj {n p q : Nat} (hn : n ≤ 3) (hp : o_st n ≤ p) (hp2 : p < o_en n) (hq : o_st n ≤ q) (hq2 : q < o_en n) (h : o_at p = o_at q) : p = q := by
  have h9 := o_en9 hn
  exact (show ∀ n, n < 4 → ∀ p, p < 9 → ∀ q, q < 9 → (o_st n ≤ p ∧ p < o_en n ∧ o_st n ≤ q ∧ q < o_en n ∧ o_at p = o_at q) → p = q by decide +kernel) n (by omega) p (by omega) q (by omega) ⟨hp, hp2, hq, hq2, h⟩
section Orders
variable {X : Nat × (Nat → Int32)} {M : q_M} {K : Int32 → q_M → Prop}
theorem c_firstOrder {d n : Nat} (hn : n ≤ 3) (h : K (nI (o_st n)) M) : q_Ci X d 85 [.int (nI n)] M K := by
  refine vc85 ⟨fun g => ?_, fun g => ⟨fun _ => ⟨q_vi (by omega) (by decide), ?_⟩, fun g2 => absurd ((q_le (b := 3) (by omega) (by omega)).mpr hn) g2⟩⟩
  · have : n = 0 := by have := (q_lt (b := 1) (by omega) (by omega)).mp g; omega
    subst this; exact h
  · rw [q_cn (by omega), o_rc1 X (by omega)]; exact h
theorem c_endOfOrders {d n : Nat} (hn : n ≤ 3) (h : K (nI (o_en n)) M) : q_Ci X d 86 [.int (nI n)] M K := by
  refine vc86 ⟨fun g => ?_, fun g => ⟨fun _ => ?_, fun g2 => absurd ((q_le (b := 3) (by omega) (by omega)).mpr hn) g2⟩⟩
  · have : n = 0 := by have := (q_lt (b := 1) (by omega) (by omega)).mp g; omega
    subst this; exact h
  · have : ¬ n = 0 := fun q => g (by subst q; decide)
    rw [nI_1, q_cn (by omega), o_rc1 X (by omega)]
    refine ⟨q_vi (by omega) (by decide), ?_⟩
    unfold o_en at h
    rw [if_neg this] at h
    exact h
theorem c_placeOfOrder {d n : Nat} {a : Int32} (hd : 0 < d) (hn : n ≤ 3) (h1 : ∀ p, o_st n ≤ p → p < o_en n → a = nI (o_at p) → K (nI p) M) (h2 : (∀ p, o_st n ≤ p → p < o_en n → a ≠ nI (o_at p)) → K (-1) M) : q_Ci X d 87 [.int a, .int (nI n)] M K := by
  have h9 := o_en9 hn
  have hse := o_sten hn
  refine vc87 hd (c_firstOrder hn ?_)
  have loop : ∀ (j i : Nat), i + j = o_en n → o_st n ≤ i → (∀ p, o_st n ≤ p → p < i → a ≠ nI (o_at p)) → q_Ex X d 87 5 [some (.int a), some (.int (nI n)), some (.int (nI i))] [] M (q_ri K) := by
    intro j
    induction j with
    | zero =>
      intro i hi hs hno
      refine vc87_p5 hd (c_endOfOrders hn ⟨fun _ => h2 (fun p a b => hno p a (by omega)), fun g => absurd ((q_le (by omega) (by omega)).mpr (by omega)) g⟩)
    | succ j ih =>
      intro i hi hs hno
      refine vc87_p5 hd (c_endOfOrders hn ⟨fun g => absurd ((q_le (by omega) (by omega)).mp g) (by omega), fun _ => ⟨q_vi (by omega) (by decide), ?_⟩⟩)
      rw [q_cn (by omega), o_rc0 X (by omega), nI_1]
      refine ⟨fun g => ih (i + 1) (by omega) (by omega) (fun p a b => ?_), fun g => h1 i hs (by omega) g.symm⟩
      by_cases q : p = i
      · subst q; exact fun e => g e.symm
      · exact hno p a (by omega)
  exact loop (o_en n - o_st n) (o_st n) (by omega) (Nat.le_refl _) (fun p a b => by omega)
theorem c_ownOrder {d n : Nat} (hd : 0 < d) (hn : n ≤ 3) (h : K (nI (o_at (o_st n))) M) : q_Ci X d 88 [.int (nI n)] M K := by
  have h9 : o_st n < 9 := (show ∀ n, n < 4 → o_st n < 9 by decide +kernel) n (by omega)
  refine vc88 hd (c_firstOrder hn ⟨q_vi h9 (by decide), ?_⟩)
  rw [q_cn (by omega), o_rc0 X h9]; exact h
theorem c_wellInOrder {d e o : Nat} (he : e < 3) (ho : o < 2 ^ 31) (h : K (nI (o / 10 ^ e % 10)) M) : q_Ci X d 89 [.int (nI o), .int (nI e)] M K := by
  have hp : 0 < 10 ^ e ∧ 10 ^ e < 1000 := (show ∀ e, e < 3 → 0 < 10 ^ e ∧ 10 ^ e < 1000 by decide +kernel) e he
  have hdl : o / 10 ^ e ≤ o := Nat.div_le_self _ _
  refine vc89 ⟨fun g => absurd g (q_nlt0 (by omega)), fun _ => ⟨fun _ => ⟨q_vi he (by decide), ?_⟩, fun g => absurd ((q_lt (b := 3) (by omega) (by omega)).mpr he) g⟩⟩
  rw [q_cn (by omega), o_rc2 X he, pk_div ho hp.1 (by omega), show nI (o / 10 ^ e) - nI (o / 10 ^ e) / 10 * 10 = nI (o / 10 ^ e % 10) from pk_rem (d := 10) (by omega) (by decide) (by decide)]
  exact ⟨fun q => absurd ((q_eq (b := 0) (by omega) (by omega)).mp q) (by omega), h⟩
/-- the wells of a law as bits -/
def l_mask (w o n e : Nat) : Nat := match l_wn w o n e with
  | some v => 2 ^ v
  | none => 2 ^ n - 1
theorem l_mask_lt {w o n e : Nat} (hn3 : n ≤ 3) (ho : ∀ d, d < n → o / 10 ^ d % 10 < n) (he : e < n) : l_mask w o n e < 8 := by
  unfold l_mask
  cases h : l_wn w o n e with
  | none => have := Nat.pow_le_pow_right (show 0 < 2 by decide) hn3; simp; omega
  | some v => exact Nat.pow_lt_pow_right (by decide) (l_wn_lt hn3 ho he h)

theorem c_wf39 {d n e o : Nat} (hd : 3 ≤ d) (hn3 : n ≤ 3) (he : e < n) (ho : o < 2 ^ 31) (hdg : ∀ d, d < n → o / 10 ^ d % 10 < n) (h : K (nI (l_mask 0 o n e)) M) : q_Ci X d 14 [.ref 39, .int (nI e), .int (nI n), .int (nI o)] M K := by
  refine vc14_39 (by omega) (vc13 ?_)
  rw [n_sh e (by omega)]
  exact h

theorem c_wf40 {d n e o : Nat} (hd : 3 ≤ d) (hn3 : n ≤ 3) (he : e < n) (ho : o < 2 ^ 31) (hdg : ∀ d, d < n → o / 10 ^ d % 10 < n) (h : K (nI (l_mask 1 o n e)) M) : q_Ci X d 14 [.ref 40, .int (nI e), .int (nI n), .int (nI o)] M K := by
  refine vc14_40 (by omega) (vc40 ?_)
  rw [show nI n - 1 = nI (n - 1) from pk_sub (a := n) (b := 1) (by omega), pk_sub (by omega), n_sh _ (by omega)]
  exact h

theorem c_wf41 {d n e o : Nat} (hd : 3 ≤ d) (hn3 : n ≤ 3) (he : e < n) (ho : o < 2 ^ 31) (hdg : ∀ d, d < n → o / 10 ^ d % 10 < n) (h : K (nI (l_mask 2 o n e)) M) : q_Ci X d 14 [.ref 41, .int (nI e), .int (nI n), .int (nI o)] M K := by
  have hp : ∀ v, v < 3 → (1 : Int32) <<< (nI v &&& 31) = nI (2 ^ v) := fun v hv => n_sh v (by omega)
  refine vc14_41 (by omega) (vc12 ⟨fun g => ?_, fun g => ?_⟩)
  · rw [nI_1, q_le (by omega) (by omega)] at g
    have e1 : (e + 1) % n = 0 := by rw [show e + 1 = n by omega, Nat.mod_self]
    have e2 : l_mask 2 o n e = 2 ^ 0 := by simp [l_mask, l_wn, e1]
    rw [e2] at h
    exact h
  · rw [nI_1, q_le (by omega) (by omega)] at g
    have e1 : (e + 1) % n = e + 1 := Nat.mod_eq_of_lt (by omega)
    have e2 : l_mask 2 o n e = 2 ^ (e + 1) := by simp [l_mask, l_wn, e1]
    rw [e2] at h
    rw [nI_1, hp _ (by omega)]
    exact h

theorem c_wf42 {d n e o : Nat} (hd : 3 ≤ d) (hn3 : n ≤ 3) (he : e < n) (ho : o < 2 ^ 31) (hdg : ∀ d, d < n → o / 10 ^ d % 10 < n) (h : K (nI (l_mask 3 o n e)) M) : q_Ci X d 0 [.ref 42, .int (nI e), .int (nI n), .int (nI o)] M K := by
  refine vc0 ?_
  rw [n_sh n (by omega), show nI (2 ^ n) - 1 = nI (2 ^ n - 1) from pk_sub (a := 2 ^ n) (b := 1) (Nat.one_le_two_pow)]
  exact h

theorem c_wf43 {d n e o : Nat} (hd : 3 ≤ d) (hn3 : n ≤ 3) (he : e < n) (ho : o < 2 ^ 31) (hdg : ∀ d, d < n → o / 10 ^ d % 10 < n) (h : K (nI (l_mask 4 o n e)) M) : q_Ci X d 14 [.ref 43, .int (nI e), .int (nI n), .int (nI o)] M K := by
  refine vc14_43 (by omega) (vc39 (by omega) (c_wellInOrder (by omega) ho ?_))
  have := hdg e he
  rw [n_sh _ (by omega)]
  exact h

/-- whether a law takes an order -/
def l_tk (w o n oq : Nat) : Bool := (List.range n).all (fun e => (l_mask w o n e).testBit (oq / 10 ^ e % 10))

theorem c_takes39 {d n o oq : Nat} (hd : 4 ≤ d) (hn3 : n ≤ 3) (ho : o < 2 ^ 31) (hoq : oq < 2 ^ 31) (hdg : ∀ d, d < n → o / 10 ^ d % 10 < n) (h : K (nI (if l_tk 0 o n oq then 1 else 0)) M) : q_Ci X d 11 [.ref 39, .int (nI oq), .int (nI n), .int (nI o)] M K := by
  refine vc11_39 ?_
  have loop : ∀ (j i : Nat), i + j = n → ((List.range i).all (fun e => (l_mask 0 o n e).testBit (oq / 10 ^ e % 10)) = true) → q_Ex X d 11 3 [some (.ref 39), some (.int (nI oq)), some (.int (nI n)), some (.int (nI o)), some (.int (nI i))] [] M (q_ri K) := by
    intro j
    induction j with
    | zero =>
      intro i hi hall
      refine vc11_39_p3 (by omega) ⟨fun _ => ?_, fun g => absurd ((q_le (by omega) (by omega)).mpr (by omega)) g⟩
      rw [show i = n by omega] at hall
      unfold l_tk at h
      rw [if_pos hall] at h
      exact h
    | succ j ih =>
      intro i hi hall
      have hm := l_mask_lt (w := 0) hn3 hdg (show i < n by omega)
      have hdig := Nat.mod_lt (oq / 10 ^ i) (show 0 < 10 by decide)
      refine vc11_39_p3 (by omega) ⟨fun g => absurd ((q_le (by omega) (by omega)).mp g) (by omega), fun _ => ?_⟩
      refine c_wf39 (by omega) hn3 (by omega) ho hdg (c_wellInOrder (by omega) hoq ?_)
      rw [n_bit0 (by omega) (by omega), nI_1]
      refine ⟨fun g => ih (i + 1) (by omega) ?_, fun g => ?_⟩
      · rw [List.range_succ, List.all_append, hall]
        simp at g
        simp [g]
      · have hf : l_tk 0 o n oq = false := by
          unfold l_tk
          rw [List.all_eq_false]
          exact ⟨i, List.mem_range.mpr (by omega), by rw [g]; decide⟩
        rw [hf] at h
        exact h
  exact loop n 0 (by omega) rfl

theorem c_takes40 {d n o oq : Nat} (hd : 4 ≤ d) (hn3 : n ≤ 3) (ho : o < 2 ^ 31) (hoq : oq < 2 ^ 31) (hdg : ∀ d, d < n → o / 10 ^ d % 10 < n) (h : K (nI (if l_tk 1 o n oq then 1 else 0)) M) : q_Ci X d 11 [.ref 40, .int (nI oq), .int (nI n), .int (nI o)] M K := by
  refine vc11_40 ?_
  have loop : ∀ (j i : Nat), i + j = n → ((List.range i).all (fun e => (l_mask 1 o n e).testBit (oq / 10 ^ e % 10)) = true) → q_Ex X d 11 3 [some (.ref 40), some (.int (nI oq)), some (.int (nI n)), some (.int (nI o)), some (.int (nI i))] [] M (q_ri K) := by
    intro j
    induction j with
    | zero =>
      intro i hi hall
      refine vc11_40_p3 (by omega) ⟨fun _ => ?_, fun g => absurd ((q_le (by omega) (by omega)).mpr (by omega)) g⟩
      rw [show i = n by omega] at hall
      unfold l_tk at h
      rw [if_pos hall] at h
      exact h
    | succ j ih =>
      intro i hi hall
      have hm := l_mask_lt (w := 1) hn3 hdg (show i < n by omega)
      have hdig := Nat.mod_lt (oq / 10 ^ i) (show 0 < 10 by decide)
      refine vc11_40_p3 (by omega) ⟨fun g => absurd ((q_le (by omega) (by omega)).mp g) (by omega), fun _ => ?_⟩
      refine c_wf40 (by omega) hn3 (by omega) ho hdg (c_wellInOrder (by omega) hoq ?_)
      rw [n_bit0 (by omega) (by omega), nI_1]
      refine ⟨fun g => ih (i + 1) (by omega) ?_, fun g => ?_⟩
      · rw [List.range_succ, List.all_append, hall]
        simp at g
        simp [g]
      · have hf : l_tk 1 o n oq = false := by
          unfold l_tk
          rw [List.all_eq_false]
          exact ⟨i, List.mem_range.mpr (by omega), by rw [g]; decide⟩
        rw [hf] at h
        exact h
  exact loop n 0 (by omega) rfl

theorem c_takes41 {d n o oq : Nat} (hd : 4 ≤ d) (hn3 : n ≤ 3) (ho : o < 2 ^ 31) (hoq : oq < 2 ^ 31) (hdg : ∀ d, d < n → o / 10 ^ d % 10 < n) (h : K (nI (if l_tk 2 o n oq then 1 else 0)) M) : q_Ci X d 11 [.ref 41, .int (nI oq), .int (nI n), .int (nI o)] M K := by
  refine vc11_41 ?_
  have loop : ∀ (j i : Nat), i + j = n → ((List.range i).all (fun e => (l_mask 2 o n e).testBit (oq / 10 ^ e % 10)) = true) → q_Ex X d 11 3 [some (.ref 41), some (.int (nI oq)), some (.int (nI n)), some (.int (nI o)), some (.int (nI i))] [] M (q_ri K) := by
    intro j
    induction j with
    | zero =>
      intro i hi hall
      refine vc11_41_p3 (by omega) ⟨fun _ => ?_, fun g => absurd ((q_le (by omega) (by omega)).mpr (by omega)) g⟩
      rw [show i = n by omega] at hall
      unfold l_tk at h
      rw [if_pos hall] at h
      exact h
    | succ j ih =>
      intro i hi hall
      have hm := l_mask_lt (w := 2) hn3 hdg (show i < n by omega)
      have hdig := Nat.mod_lt (oq / 10 ^ i) (show 0 < 10 by decide)
      refine vc11_41_p3 (by omega) ⟨fun g => absurd ((q_le (by omega) (by omega)).mp g) (by omega), fun _ => ?_⟩
      refine c_wf41 (by omega) hn3 (by omega) ho hdg (c_wellInOrder (by omega) hoq ?_)
      rw [n_bit0 (by omega) (by omega), nI_1]
      refine ⟨fun g => ih (i + 1) (by omega) ?_, fun g => ?_⟩
      · rw [List.range_succ, List.all_append, hall]
        simp at g
        simp [g]
      · have hf : l_tk 2 o n oq = false := by
          unfold l_tk
          rw [List.all_eq_false]
          exact ⟨i, List.mem_range.mpr (by omega), by rw [g]; decide⟩
        rw [hf] at h
        exact h
  exact loop n 0 (by omega) rfl

theorem c_takes42 {d n o oq : Nat} (hd : 4 ≤ d) (hn3 : n ≤ 3) (ho : o < 2 ^ 31) (hoq : oq < 2 ^ 31) (hdg : ∀ d, d < n → o / 10 ^ d % 10 < n) (h : K (nI (if l_tk 3 o n oq then 1 else 0)) M) : q_Ci X d 11 [.ref 42, .int (nI oq), .int (nI n), .int (nI o)] M K := by
  refine vc11_42 ?_
  have loop : ∀ (j i : Nat), i + j = n → ((List.range i).all (fun e => (l_mask 3 o n e).testBit (oq / 10 ^ e % 10)) = true) → q_Ex X d 11 3 [some (.ref 42), some (.int (nI oq)), some (.int (nI n)), some (.int (nI o)), some (.int (nI i))] [] M (q_ri K) := by
    intro j
    induction j with
    | zero =>
      intro i hi hall
      refine vc11_42_p3 (by omega) ⟨fun _ => ?_, fun g => absurd ((q_le (by omega) (by omega)).mpr (by omega)) g⟩
      rw [show i = n by omega] at hall
      unfold l_tk at h
      rw [if_pos hall] at h
      exact h
    | succ j ih =>
      intro i hi hall
      have hm := l_mask_lt (w := 3) hn3 hdg (show i < n by omega)
      have hdig := Nat.mod_lt (oq / 10 ^ i) (show 0 < 10 by decide)
      refine vc11_42_p3 (by omega) ⟨fun g => absurd ((q_le (by omega) (by omega)).mp g) (by omega), fun _ => ?_⟩
      refine c_wf42 (by omega) hn3 (by omega) ho hdg (c_wellInOrder (by omega) hoq ?_)
      rw [n_bit0 (by omega) (by omega), nI_1]
      refine ⟨fun g => ih (i + 1) (by omega) ?_, fun g => ?_⟩
      · rw [List.range_succ, List.all_append, hall]
        simp at g
        simp [g]
      · have hf : l_tk 3 o n oq = false := by
          unfold l_tk
          rw [List.all_eq_false]
          exact ⟨i, List.mem_range.mpr (by omega), by rw [g]; decide⟩
        rw [hf] at h
        exact h
  exact loop n 0 (by omega) rfl

theorem c_takes43 {d n o oq : Nat} (hd : 4 ≤ d) (hn3 : n ≤ 3) (ho : o < 2 ^ 31) (hoq : oq < 2 ^ 31) (hdg : ∀ d, d < n → o / 10 ^ d % 10 < n) (h : K (nI (if l_tk 4 o n oq then 1 else 0)) M) : q_Ci X d 11 [.ref 43, .int (nI oq), .int (nI n), .int (nI o)] M K := by
  refine vc11_43 ?_
  have loop : ∀ (j i : Nat), i + j = n → ((List.range i).all (fun e => (l_mask 4 o n e).testBit (oq / 10 ^ e % 10)) = true) → q_Ex X d 11 3 [some (.ref 43), some (.int (nI oq)), some (.int (nI n)), some (.int (nI o)), some (.int (nI i))] [] M (q_ri K) := by
    intro j
    induction j with
    | zero =>
      intro i hi hall
      refine vc11_43_p3 (by omega) ⟨fun _ => ?_, fun g => absurd ((q_le (by omega) (by omega)).mpr (by omega)) g⟩
      rw [show i = n by omega] at hall
      unfold l_tk at h
      rw [if_pos hall] at h
      exact h
    | succ j ih =>
      intro i hi hall
      have hm := l_mask_lt (w := 4) hn3 hdg (show i < n by omega)
      have hdig := Nat.mod_lt (oq / 10 ^ i) (show 0 < 10 by decide)
      refine vc11_43_p3 (by omega) ⟨fun g => absurd ((q_le (by omega) (by omega)).mp g) (by omega), fun _ => ?_⟩
      refine c_wf43 (by omega) hn3 (by omega) ho hdg (c_wellInOrder (by omega) hoq ?_)
      rw [n_bit0 (by omega) (by omega), nI_1]
      refine ⟨fun g => ih (i + 1) (by omega) ?_, fun g => ?_⟩
      · rw [List.range_succ, List.all_append, hall]
        simp at g
        simp [g]
      · have hf : l_tk 4 o n oq = false := by
          unfold l_tk
          rw [List.all_eq_false]
          exact ⟨i, List.mem_range.mpr (by omega), by rw [g]; decide⟩
        rw [hf] at h
        exact h
  exact loop n 0 (by omega) rfl
theorem c_wfV1 {d w n e o : Nat} (hw : w < 5) (hd : 3 ≤ d) (hn3 : n ≤ 3) (he : e < n) (ho : o < 2 ^ 31) (hdg : ∀ d, d < n → o / 10 ^ d % 10 < n) (h : K (nI (l_mask w o n e)) M) : q_CV X d 1 28 (39 + w) [.int (nI e), .int (nI n), .int (nI o)] M K := by
  match w, hw with
  | 0, _ => exact cv1_28_39 rfl (c_wf39 hd hn3 he ho hdg h)
  | 1, _ => exact cv1_28_40 rfl (c_wf40 hd hn3 he ho hdg h)
  | 2, _ => exact cv1_28_41 rfl (c_wf41 hd hn3 he ho hdg h)
  | 3, _ => exact cv1_28_42 rfl (c_wf42 hd hn3 he ho hdg h)
  | 4, _ => exact cv1_28_43 rfl (c_wf43 hd hn3 he ho hdg h)
  | k + 5, hk => omega
theorem c_tkV76 {d w n o oq : Nat} (hw : w < 5) (hd : 4 ≤ d) (hn3 : n ≤ 3) (ho : o < 2 ^ 31) (hoq : oq < 2 ^ 31) (hdg : ∀ d, d < n → o / 10 ^ d % 10 < n) (h : K (nI (if l_tk w o n oq then 1 else 0)) M) : q_CV X d 76 277 (39 + w) [.int (nI oq), .int (nI n), .int (nI o)] M K := by
  match w, hw with
  | 0, _ => exact cv76_277_39 rfl (c_takes39 hd hn3 ho hoq hdg h)
  | 1, _ => exact cv76_277_40 rfl (c_takes40 hd hn3 ho hoq hdg h)
  | 2, _ => exact cv76_277_41 rfl (c_takes41 hd hn3 ho hoq hdg h)
  | 3, _ => exact cv76_277_42 rfl (c_takes42 hd hn3 ho hoq hdg h)
  | 4, _ => exact cv76_277_43 rfl (c_takes43 hd hn3 ho hoq hdg h)
  | k + 5, hk => omega
theorem c_wfV81 {d w n e o : Nat} (hw : w < 5) (hd : 3 ≤ d) (hn3 : n ≤ 3) (he : e < n) (ho : o < 2 ^ 31) (hdg : ∀ d, d < n → o / 10 ^ d % 10 < n) (h : K (nI (l_mask w o n e)) M) : q_CV X d 81 297 (39 + w) [.int (nI e), .int (nI n), .int (nI o)] M K := by
  match w, hw with
  | 0, _ => exact cv81_297_39 rfl (c_wf39 hd hn3 he ho hdg h)
  | 1, _ => exact cv81_297_40 rfl (c_wf40 hd hn3 he ho hdg h)
  | 2, _ => exact cv81_297_41 rfl (c_wf41 hd hn3 he ho hdg h)
  | 3, _ => exact cv81_297_42 rfl (c_wf42 hd hn3 he ho hdg h)
  | 4, _ => exact cv81_297_43 rfl (c_wf43 hd hn3 he ho hdg h)
  | k + 5, hk => omega
end Orders
