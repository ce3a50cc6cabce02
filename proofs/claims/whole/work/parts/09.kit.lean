/-! numbers and memory, for the contracts -/
theorem q_set_ap (M : q_M) (k j : Nat) (v : Int32) (a b : Nat) : q_set M k j v a b = if a = k ∧ b = j then v else M a b := by
  unfold q_set q_row upd
  by_cases h : a = k
  · subst h
    by_cases h2 : b = j <;> simp [h2]
  · simp [h]
theorem q_set_n {M : q_M} {k j a : Nat} {v : Int32} (h : a ≠ k) : q_set M k j v a = M a := q_row_n h
theorem q_set_s (M : q_M) (k j : Nat) (v : Int32) : q_set M k j v k = upd (M k) j v := q_row_s M k _
theorem q_row_ap (M : q_M) (k : Nat) (f : Nat → Int32) (a b : Nat) : q_row M k f a b = if a = k then f b else M a b := by
  unfold q_row
  by_cases h : a = k <;> simp [h]
theorem q_upd_ap (f : Nat → Int32) (j : Nat) (v : Int32) (b : Nat) : upd f j v b = if b = j then v else f b := rfl
theorem q_cpy_ap (f g : Nat → Int32) (n k : Nat) : va_cpy f g 0 0 n k = if k < n then f k else g k := by
  unfold va_cpy
  by_cases h : k < n <;> simp [h]
theorem q_le {a b : Nat} (ha : a < 2 ^ 31) (hb : b < 2 ^ 31) : nI a ≤ nI b ↔ a ≤ b := nI_leI ha hb
theorem q_lt {a b : Nat} (ha : a < 2 ^ 31) (hb : b < 2 ^ 31) : nI a < nI b ↔ a < b := nI_ltI ha hb
theorem q_eq {a b : Nat} (ha : a < 2 ^ 31) (hb : b < 2 ^ 31) : nI a = nI b ↔ a = b := nI_eq ha hb
theorem q_cn {n : Nat} (h : n < 2 ^ 31) : Int32.toNatClampNeg (nI n) = n := nI_clamp h
theorem q_nn {a : Int32} (h : ¬ a < 0) : ∃ j : Nat, j < 2 ^ 31 ∧ a = nI j := nI_of h
theorem q_nn' {a : Int32} (h : 0 ≤ a) : ∃ j : Nat, j < 2 ^ 31 ∧ a = nI j := nI_of (by rw [Int32.le_iff_toInt_le] at h; rw [Int32.lt_iff_toInt_lt]; omega)
theorem q_neg {a : Int32} : ¬ 0 ≤ a ↔ a < 0 := Int32.not_le
theorem q_vi {n N : Nat} (h : n < N) (hN : N < 2 ^ 31) : vp_in (nI n) N := vp_in_nI h hN
/-- a number is below 0, or the name of a natural number -/
theorem q_cases (a : Int32) : a < 0 ∨ ∃ j : Nat, j < 2 ^ 31 ∧ a = nI j := by
  by_cases h : a < 0
  · exact Or.inl h
  · exact Or.inr (q_nn h)
theorem q_in_nn {a b : Int32} {n : Nat} (hb : b = nI n) (hn : n < 2 ^ 31) (h1 : ¬ a < 0) (h2 : a < b) : ∃ j : Nat, j < n ∧ a = nI j := by
  obtain ⟨j, hj, rfl⟩ := q_nn h1
  rw [hb, q_lt hj hn] at h2
  exact ⟨j, h2, rfl⟩
theorem q_nlt0 {n : Nat} (h : n < 2 ^ 31) : ¬ nI n < 0 := nI_pos h
theorem q_0le {n : Nat} (h : n < 2 ^ 31) : (0 : Int32) ≤ nI n := nI_pos' h
section Frames
def q_lo (M M' : q_M) : Prop := ∀ k, 97 ≤ k → M' k = M k
def q_hi (M M' : q_M) : Prop := ∀ k, k < 97 → M' k = M k
theorem q_lo.rf (M : q_M) : q_lo M M := fun _ _ => rfl
theorem q_hi.rf (M : q_M) : q_hi M M := fun _ _ => rfl
theorem q_lo.tr {A B C : q_M} (h : q_lo A B) (h2 : q_lo B C) : q_lo A C := fun k hk => (h2 k hk).trans (h k hk)
theorem q_hi.tr {A B C : q_M} (h : q_hi A B) (h2 : q_hi B C) : q_hi A C := fun k hk => (h2 k hk).trans (h k hk)
theorem q_lo.set {A B : q_M} {k j : Nat} {v : Int32} (h : q_lo A B) (hk : k < 97) : q_lo A (q_set B k j v) := fun a ha => by rw [q_set_n (by omega)]; exact h a ha
theorem q_hi.set {A B : q_M} {k j : Nat} {v : Int32} (h : q_hi A B) (hk : 97 ≤ k) : q_hi A (q_set B k j v) := fun a ha => by rw [q_set_n (by omega)]; exact h a ha
theorem q_lo.row {A B : q_M} {k : Nat} {f : Nat → Int32} (h : q_lo A B) (hk : k < 97) : q_lo A (q_row B k f) := fun a ha => by rw [q_row_n (by omega)]; exact h a ha
theorem q_hi.row {A B : q_M} {k : Nat} {f : Nat → Int32} (h : q_hi A B) (hk : 97 ≤ k) : q_hi A (q_row B k f) := fun a ha => by rw [q_row_n (by omega)]; exact h a ha
end Frames
/-! refusals -/
theorem c_refuse {X : Nat × (Nat → Int32)} {d : Nat} {M : q_M} {a : Int32} {K : Int32 → q_M → Prop} (p : Nat) (hp : -a = nI p) (h1 : 0 < p) (h2 : p < 7) (h : K a (q_set M 2 p (M 2 p + 1))) : q_Ci X d 72 [.ref 0, .int a] M K := by
  refine vc72 ?_
  rw [hp, q_cn (by omega)]
  refine ⟨fun g => absurd ((q_le (b := 0) (by omega) (by omega)).mp g) (by omega), fun _ => ⟨fun g => absurd ((q_le (a := 7) (by omega) (by omega)).mp g) (by omega), fun _ => ⟨q_vi h2 (by omega), q_vi h2 (by omega), h⟩⟩⟩
theorem r_refuse {X : Nat × (Nat → Int32)} {d : Nat} {M : q_M} {a : Int32} {K : Int32 → q_M → Prop} (p : Nat) (hp : -a = nI p) (h2 : p < 7) (h : K a (q_set M 98 p (M 98 p + 1))) : q_Ci X d 91 [.ref 97, .int a] M K := by
  refine vc91 ?_
  rw [hp, q_cn (by omega)]
  exact ⟨q_vi h2 (by omega), q_vi h2 (by omega), h⟩
theorem r_isIn {X : Nat × (Nat → Int32)} {d : Nat} {M : q_M} {a b : Int32} {K : Int32 → q_M → Prop} (h1 : ¬ a < 0 → a < b → K 1 M) (h2 : (a < 0 ∨ ¬ a < b) → K 0 M) : q_Ci X d 92 [.int a, .int b] M K := by
  refine vc92 ?_
  constructor
  · intro g; exact h2 (Or.inl g)
  · intro g
    constructor
    · intro g2; exact h2 (Or.inr (fun g3 => by rw [Int32.le_iff_toInt_le] at g2; rw [Int32.lt_iff_toInt_lt] at g3; omega))
    · intro g2; exact h1 g (Int32.not_le.mp g2)
