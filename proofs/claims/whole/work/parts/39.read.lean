/-! letters become a slope: as both read them -/
abbrev p_S : Type := Nat × Nat × Nat × Nat × Nat × (Nat → Nat) × (Nat → Nat) × (Nat → Nat) × (Nat → Option Nat) × (Nat → Option Nat)
def p_up {α : Type} (f : Nat → α) (i : Nat) (v : α) : Nat → α := fun x => if x = i then v else f x
theorem p_up_s {α : Type} (f : Nat → α) (i : Nat) (v : α) : p_up f i v i = v := if_pos rfl
theorem p_up_n {α : Type} {f : Nat → α} {i x : Nat} {v : α} (h : x ≠ i) : p_up f i v x = f x := if_neg h
/-- rows ended, columns (0 in the first row), cells of this row, cells, stones, kinds, costs, numbers, cells of doors, of wells -/
def p_step (c : Nat) : p_S → Option p_S
  | (r, q, x, m, s, kd, co, nu, dA, wA) =>
    if c = 47 then (if (if r = 0 then 2 ≤ x else x = q ∧ r + 1 < 6) then some (r + 1, x, 0, m, s, kd, co, nu, dA, wA) else none)
    else if x = (if r = 0 then 5 else q) then none
    else if c = 46 then some (r, q, x + 1, m + 1, s, p_up kd m 0, p_up co m 0, p_up nu m 0, dA, wA)
    else if c = 35 then some (r, q, x + 1, m + 1, s + 1, p_up kd m 1, p_up co m 0, p_up nu m 0, dA, wA)
    else if 49 ≤ c ∧ c ≤ 57 then some (r, q, x + 1, m + 1, s, p_up kd m 0, p_up co m (c - 48), p_up nu m 0, dA, wA)
    else if 97 ≤ c ∧ c ≤ 99 then (if (dA (c - 97)).isSome then none else some (r, q, x + 1, m + 1, s, p_up kd m 2, p_up co m 0, p_up nu m (c - 97), p_up dA (c - 97) (some m), wA))
    else if 120 ≤ c ∧ c ≤ 122 then (if (wA (c - 120)).isSome then none else some (r, q, x + 1, m + 1, s, p_up kd m 3, p_up co m 0, p_up nu m (c - 120), dA, p_up wA (c - 120) (some m)))
    else none
theorem p_step_e (c r q x m s : Nat) (kd co nu : Nat → Nat) (dA wA : Nat → Option Nat) : p_step c (r, q, x, m, s, kd, co, nu, dA, wA) =
    (if c = 47 then (if (if r = 0 then 2 ≤ x else x = q ∧ r + 1 < 6) then some (r + 1, x, 0, m, s, kd, co, nu, dA, wA) else none)
    else if x = (if r = 0 then 5 else q) then none
    else if c = 46 then some (r, q, x + 1, m + 1, s, p_up kd m 0, p_up co m 0, p_up nu m 0, dA, wA)
    else if c = 35 then some (r, q, x + 1, m + 1, s + 1, p_up kd m 1, p_up co m 0, p_up nu m 0, dA, wA)
    else if 49 ≤ c ∧ c ≤ 57 then some (r, q, x + 1, m + 1, s, p_up kd m 0, p_up co m (c - 48), p_up nu m 0, dA, wA)
    else if 97 ≤ c ∧ c ≤ 99 then (if (dA (c - 97)).isSome then none else some (r, q, x + 1, m + 1, s, p_up kd m 2, p_up co m 0, p_up nu m (c - 97), p_up dA (c - 97) (some m), wA))
    else if 120 ≤ c ∧ c ≤ 122 then (if (wA (c - 120)).isSome then none else some (r, q, x + 1, m + 1, s, p_up kd m 3, p_up co m 0, p_up nu m (c - 120), dA, p_up wA (c - 120) (some m)))
    else none) := rfl
def p_run (tp : Nat → Nat) : Nat → Nat → p_S → Nat ⊕ p_S
  | 0, _, σ => .inr σ
  | j + 1, i, σ => match p_step (tp i) σ with
    | none => .inl i
    | some τ => p_run tp j (i + 1) τ
theorem p_run_s (tp : Nat → Nat) (j i : Nat) (σ : p_S) : p_run tp (j + 1) i σ = (match p_step (tp i) σ with | none => .inl i | some τ => p_run tp j (i + 1) τ) := rfl
/-- what holds while letters are read -/
def p_ok : p_S → Prop
  | (r, q, x, m, s, kd, co, nu, dA, wA) => r < 6 ∧ (r = 0 ↔ q = 0) ∧ q ≤ 5 ∧ (0 < r → 2 ≤ q) ∧ x ≤ (if r = 0 then 5 else q) ∧ m = r * q + x ∧ s = g_stones kd m ∧
    (∀ i, i < m → kd i ≤ 3 ∧ co i ≤ 9 ∧ (1 ≤ kd i → co i = 0) ∧ (kd i = 2 → nu i < 3 ∧ dA (nu i) = some i) ∧ (kd i = 3 → nu i < 3 ∧ wA (nu i) = some i)) ∧
    (∀ n t, n < 3 → dA n = some t → t < m ∧ kd t = 2 ∧ nu t = n) ∧ (∀ n t, n < 3 → wA n = some t → t < m ∧ kd t = 3 ∧ nu t = n)
theorem g_stones_up (kd : Nat → Nat) (m k : Nat) : g_stones (p_up kd m k) (m + 1) = g_stones kd m + (if k = 1 then 1 else 0) := by
  unfold g_stones
  rw [List.range_succ, List.filter_append, List.length_append]
  congr 1
  · congr 1
    apply List.filter_congr
    intro x hx
    rw [p_up_n (by have := List.mem_range.mp hx; omega)]
  · by_cases e : k = 1
    · subst e; simp [p_up_s]
    · simp [p_up_s, e]
theorem p_ok_put {r q x m s : Nat} {kd co nu : Nat → Nat} {dA wA : Nat → Option Nat} (h : p_ok (r, q, x, m, s, kd, co, nu, dA, wA)) (hx : ¬ x = (if r = 0 then 5 else q)) {k p v : Nat} {dB wB : Nat → Option Nat} (hk : k ≤ 3) (hp : p ≤ 9) (hkp : 1 ≤ k → p = 0) (hd : (k ≠ 2 ∧ dB = dA) ∨ (k = 2 ∧ v < 3 ∧ dA v = none ∧ dB = p_up dA v (some m))) (hw : (k ≠ 3 ∧ wB = wA) ∨ (k = 3 ∧ v < 3 ∧ wA v = none ∧ wB = p_up wA v (some m))) : p_ok (r, q, x + 1, m + 1, s + (if k = 1 then 1 else 0), p_up kd m k, p_up co m p, p_up nu m v, dB, wB) := by
  obtain ⟨h1, h2, h3, h4, h5, h6, h7, h8, h9, h10⟩ := h
  refine ⟨h1, h2, h3, h4, by omega, by omega, by rw [g_stones_up, h7], fun i hi => ?_, fun n t hn ht => ?_, fun n t hn ht => ?_⟩
  · by_cases e : i = m
    · subst e
      rw [p_up_s, p_up_s, p_up_s]
      refine ⟨hk, hp, hkp, fun k2 => ?_, fun k3 => ?_⟩
      · rcases hd with ⟨a, -⟩ | ⟨-, a, -, b⟩
        · exact absurd k2 a
        · exact ⟨a, by rw [b, p_up_s]⟩
      · rcases hw with ⟨a, -⟩ | ⟨-, a, -, b⟩
        · exact absurd k3 a
        · exact ⟨a, by rw [b, p_up_s]⟩
    · rw [p_up_n e, p_up_n e, p_up_n e]
      obtain ⟨a1, a2, a3, a4, a5⟩ := h8 i (by omega)
      refine ⟨a1, a2, a3, fun k2 => ?_, fun k3 => ?_⟩
      · obtain ⟨b1, b2⟩ := a4 k2
        refine ⟨b1, ?_⟩
        rcases hd with ⟨-, b⟩ | ⟨-, -, c, b⟩
        · rw [b]; exact b2
        · rw [b, p_up_n (fun z => by rw [z, c] at b2; cases b2)]; exact b2
      · obtain ⟨b1, b2⟩ := a5 k3
        refine ⟨b1, ?_⟩
        rcases hw with ⟨-, b⟩ | ⟨-, -, c, b⟩
        · rw [b]; exact b2
        · rw [b, p_up_n (fun z => by rw [z, c] at b2; cases b2)]; exact b2
  · rcases hd with ⟨a, b⟩ | ⟨a, -, c, b⟩
    · rw [b] at ht
      obtain ⟨c1, c2, c3⟩ := h9 n t hn ht
      have : t ≠ m := by omega
      exact ⟨by omega, by rw [p_up_n this]; exact c2, by rw [p_up_n this]; exact c3⟩
    · rw [b] at ht
      by_cases e : n = v
      · subst e
        rw [p_up_s] at ht
        cases ht
        exact ⟨by omega, by rw [p_up_s]; exact a, by rw [p_up_s]⟩
      · rw [p_up_n e] at ht
        obtain ⟨c1, c2, c3⟩ := h9 n t hn ht
        have : t ≠ m := by omega
        exact ⟨by omega, by rw [p_up_n this]; exact c2, by rw [p_up_n this]; exact c3⟩
  · rcases hw with ⟨a, b⟩ | ⟨a, -, c, b⟩
    · rw [b] at ht
      obtain ⟨c1, c2, c3⟩ := h10 n t hn ht
      have : t ≠ m := by omega
      exact ⟨by omega, by rw [p_up_n this]; exact c2, by rw [p_up_n this]; exact c3⟩
    · rw [b] at ht
      by_cases e : n = v
      · subst e
        rw [p_up_s] at ht
        cases ht
        exact ⟨by omega, by rw [p_up_s]; exact a, by rw [p_up_s]⟩
      · rw [p_up_n e] at ht
        obtain ⟨c1, c2, c3⟩ := h10 n t hn ht
        have : t ≠ m := by omega
        exact ⟨by omega, by rw [p_up_n this]; exact c2, by rw [p_up_n this]; exact c3⟩
theorem p_ok_row {r q x m s : Nat} {kd co nu : Nat → Nat} {dA wA : Nat → Option Nat} (h : p_ok (r, q, x, m, s, kd, co, nu, dA, wA)) (hx : if r = 0 then 2 ≤ x else x = q ∧ r + 1 < 6) : p_ok (r + 1, x, 0, m, s, kd, co, nu, dA, wA) := by
  obtain ⟨h1, h2, h3, h4, h5, h6, h7, h8, h9, h10⟩ := h
  by_cases e : r = 0
  · rw [if_pos e] at hx h5
    subst e
    have : q = 0 := h2.mp rfl
    exact ⟨by omega, ⟨fun z => by omega, fun z => by omega⟩, by omega, fun _ => by omega, by omega, by omega, h7, h8, h9, h10⟩
  · rw [if_neg e] at hx h5
    obtain ⟨hx1, hx2⟩ := hx
    subst hx1
    have := h4 (by omega)
    refine ⟨by omega, ⟨fun z => by omega, fun z => by omega⟩, h3, fun _ => this, by omega, ?_, h7, h8, h9, h10⟩
    rw [Nat.add_mul]; omega
theorem p_ok_m {r q x m s : Nat} {kd co nu : Nat → Nat} {dA wA : Nat → Option Nat} (h : p_ok (r, q, x, m, s, kd, co, nu, dA, wA)) : m ≤ 30 ∧ (¬ x = (if r = 0 then 5 else q) → m < 30) := by
  obtain ⟨h1, h2, h3, h4, h5, h6, -⟩ := h
  have hq : r * q ≤ 5 * q := Nat.mul_le_mul_right q (by omega)
  by_cases e : r = 0
  · rw [if_pos e] at h5 ⊢
    subst e
    omega
  · rw [if_neg e] at h5 ⊢
    omega
theorem p_step_ok {c : Nat} {σ τ : p_S} (h : p_ok σ) (hs : p_step c σ = some τ) : p_ok τ := by
  obtain ⟨r, q, x, m, s, kd, co, nu, dA, wA⟩ := σ
  rw [p_step_e] at hs
  by_cases c1 : c = 47
  · rw [if_pos c1] at hs
    by_cases c2 : (if r = 0 then 2 ≤ x else x = q ∧ r + 1 < 6)
    · rw [if_pos c2] at hs
      cases hs
      exact p_ok_row h c2
    · rw [if_neg c2] at hs; cases hs
  · rw [if_neg c1] at hs
    by_cases c2 : x = (if r = 0 then 5 else q)
    · rw [if_pos c2] at hs; cases hs
    · rw [if_neg c2] at hs
      by_cases c3 : c = 46
      · rw [if_pos c3] at hs; cases hs
        exact p_ok_put h c2 (k := 0) (by decide) (by decide) (fun _ => rfl) (Or.inl ⟨by decide, rfl⟩) (Or.inl ⟨by decide, rfl⟩)
      · rw [if_neg c3] at hs
        by_cases c4 : c = 35
        · rw [if_pos c4] at hs; cases hs
          exact p_ok_put h c2 (k := 1) (by decide) (by decide) (fun _ => rfl) (Or.inl ⟨by decide, rfl⟩) (Or.inl ⟨by decide, rfl⟩)
        · rw [if_neg c4] at hs
          by_cases c5 : 49 ≤ c ∧ c ≤ 57
          · rw [if_pos c5] at hs; cases hs
            exact p_ok_put h c2 (k := 0) (by decide) (by omega) (fun z => by omega) (Or.inl ⟨by decide, rfl⟩) (Or.inl ⟨by decide, rfl⟩)
          · rw [if_neg c5] at hs
            by_cases c6 : 97 ≤ c ∧ c ≤ 99
            · rw [if_pos c6] at hs
              cases hd : dA (c - 97) with
              | some t => rw [hd, if_pos (show (some t).isSome = true from rfl)] at hs; cases hs
              | none =>
                rw [hd, if_neg (by decide)] at hs; cases hs
                exact p_ok_put h c2 (k := 2) (by decide) (by decide) (fun _ => rfl) (Or.inr ⟨rfl, by omega, hd, rfl⟩) (Or.inl ⟨by decide, rfl⟩)
            · rw [if_neg c6] at hs
              by_cases c7 : 120 ≤ c ∧ c ≤ 122
              · rw [if_pos c7] at hs
                cases hd : wA (c - 120) with
                | some t => rw [hd, if_pos (show (some t).isSome = true from rfl)] at hs; cases hs
                | none =>
                  rw [hd, if_neg (by decide)] at hs; cases hs
                  exact p_ok_put h c2 (k := 3) (by decide) (by decide) (fun _ => rfl) (Or.inl ⟨by decide, rfl⟩) (Or.inr ⟨rfl, by omega, hd, rfl⟩)
              · rw [if_neg c7] at hs; cases hs
/-! the class's draft -/
def c_rd (M : q_M) : p_S → Prop
  | (r, q, x, m, s, kd, co, nu, dA, wA) => M 3 0 = nI r ∧ M 3 1 = nI q ∧ M 3 11 = nI x ∧ M 3 2 = nI m ∧ M 3 3 = nI s ∧ M 3 4 = 0 ∧ (∀ i, i < m → M 4 i = nI (kd i) ∧ M 5 i = nI (co i) ∧ M 6 i = g_numb kd nu i) ∧ ∀ n, n < 3 → M 7 n = g_oi (dA n) ∧ M 8 n = g_oi (wA n)
def d_fr (M M' : q_M) : Prop := ∀ k, (k < 3 ∨ 8 < k) → M' k = M k
theorem c_put {X : Nat × (Nat → Int32)} {d : Nat} {M0 M : q_M} {K : Int32 → q_M → Prop} {r q x m : Nat} {kd co nu : Nat → Nat} {dB wB : Nat → Option Nat} {k p v s' : Nat} {b : Int32} (hm : m < 30) (h0 : M 3 0 = nI r ∧ M 3 1 = nI q ∧ M 3 11 = nI x ∧ M 3 2 = nI m ∧ M 3 3 = nI s' ∧ M 3 4 = 0 ∧ (∀ i, i < m → M 4 i = nI (kd i) ∧ M 5 i = nI (co i) ∧ M 6 i = g_numb kd nu i) ∧ ∀ n, n < 3 → M 7 n = g_oi (dB n) ∧ M 8 n = g_oi (wB n)) (hf : d_fr M0 M) (hb : b = if k < 2 then -9 else nI v) (h : ∀ M', d_fr M0 M' → c_rd M' (r, q, x + 1, m + 1, s', p_up kd m k, p_up co m p, p_up nu m v, dB, wB) → K 1 M') : q_Ci X d 21 [.ref 3, .int (nI k), .int (nI p), .int b] M K := by
  obtain ⟨a1, a2, a3, a4, a5, a6, a7, a8⟩ := h0
  refine vc21 ?_
  rw [a4, q_cn (by omega), a3, nI_1, nI_1]
  have hv : vp_in (nI m) 30 := q_vi hm (by decide)
  refine ⟨hv, hv, hv, h _ (fun k hk => by rw [q_set_n (by omega), q_set_n (by omega), q_set_n (by omega), q_set_n (by omega), q_set_n (by omega)]; exact hf k hk) ?_⟩
  refine ⟨by simp [q_set_ap, a1], by simp [q_set_ap, a2], by simp [q_set_ap], by simp [q_set_ap], by simp [q_set_ap, a5], by simp [q_set_ap, a6], fun i hi => ?_, fun n hn => by simp [q_set_ap, a8 n hn]⟩
  by_cases e : i = m
  · subst e
    rw [p_up_s, p_up_s]
    refine ⟨by simp [q_set_ap], by simp [q_set_ap], ?_⟩
    unfold g_numb
    rw [p_up_s, p_up_s, ← hb]
    simp [q_set_ap]
  · obtain ⟨b1, b2, b3⟩ := a7 i (by omega)
    rw [p_up_n e, p_up_n e]
    refine ⟨by simp [q_set_ap, e, b1], by simp [q_set_ap, e, b2], ?_⟩
    unfold g_numb
    rw [p_up_n e, p_up_n e]
    unfold g_numb at b3
    rw [← b3]
    simp [q_set_ap, e]
theorem q_lt_l {a b : Nat} (ha : a < 2 ^ 31) (hb : b < 2 ^ 31) {A B : Prop} (h1 : a < b → A) (h2 : ¬ a < b → B) : (nI a < nI b → A) ∧ (¬ nI a < nI b → B) := by
  rw [q_lt ha hb]; exact ⟨h1, h2⟩
/-- the tree of letters, as the class asks -/
theorem l_treeC {c : Nat} (hc : c < 256) {P0 Pdot Pdig Pst Pd Pw : Prop} (h0 : c ≠ 46 → c ≠ 35 → ¬ (49 ≤ c ∧ c ≤ 57) → ¬ (97 ≤ c ∧ c ≤ 99) → ¬ (120 ≤ c ∧ c ≤ 122) → P0) (h1 : c = 46 → Pdot) (h2 : 49 ≤ c ∧ c ≤ 57 → Pdig) (h3 : c = 35 → Pst) (h4 : 97 ≤ c ∧ c ≤ 99 → Pd) (h5 : 120 ≤ c ∧ c ≤ 122 → Pw) :
    ((¬ nI c = 46) → (((nI c < 49) → (((¬ nI c = 35) → (((nI c < 97) → (((nI c < 120) → P0) ∧ ((¬ nI c < 120) → (((122 < nI c) → P0) ∧ ((¬ 122 < nI c) → Pw))))) ∧ ((¬ nI c < 97) → (((99 < nI c) → (((nI c < 120) → P0) ∧ ((¬ nI c < 120) → (((122 < nI c) → P0) ∧ ((¬ 122 < nI c) → Pw))))) ∧ ((¬ 99 < nI c) → Pd))))) ∧ ((nI c = 35) → Pst))) ∧ ((¬ nI c < 49) → (((57 < nI c) → (((¬ nI c = 35) → (((nI c < 97) → (((nI c < 120) → P0) ∧ ((¬ nI c < 120) → (((122 < nI c) → P0) ∧ ((¬ 122 < nI c) → Pw))))) ∧ ((¬ nI c < 97) → (((99 < nI c) → (((nI c < 120) → P0) ∧ ((¬ nI c < 120) → (((122 < nI c) → P0) ∧ ((¬ 122 < nI c) → Pw))))) ∧ ((¬ 99 < nI c) → Pd))))) ∧ ((nI c = 35) → Pst))) ∧ ((¬ 57 < nI c) → Pdig))))) ∧ ((nI c = 46) → Pdot) := by
  have lt : ∀ v, v < 256 → (nI c < nI v ↔ c < v) := fun v hv => q_lt (by omega) (by omega)
  have gt : ∀ v, v < 256 → (nI v < nI c ↔ v < c) := fun v hv => q_lt (by omega) (by omega)
  have eq : ∀ v, v < 256 → (nI c = nI v ↔ c = v) := fun v hv => q_eq (by omega) (by omega)
  have l49 := lt 49 (by decide)
  have l97 := lt 97 (by decide)
  have l120 := lt 120 (by decide)
  have g122 := gt 122 (by decide)
  have g99 := gt 99 (by decide)
  have g57 := gt 57 (by decide)
  have e46 := eq 46 (by decide)
  have e35 := eq 35 (by decide)
  rw [show (46 : Int32) = nI 46 from rfl, show (49 : Int32) = nI 49 from rfl, show (35 : Int32) = nI 35 from rfl, show (97 : Int32) = nI 97 from rfl, show (120 : Int32) = nI 120 from rfl, show (122 : Int32) = nI 122 from rfl, show (99 : Int32) = nI 99 from rfl, show (57 : Int32) = nI 57 from rfl, l49, l97, l120, g122, g99, g57, e46, e35]
  have tw : c ≠ 46 → c ≠ 35 → ¬ (49 ≤ c ∧ c ≤ 57) → ¬ (97 ≤ c ∧ c ≤ 99) → ((c < 120 → P0) ∧ (¬ c < 120 → ((122 < c → P0) ∧ (¬ 122 < c → Pw)))) := fun a b e f => ⟨fun g => h0 a b e f (by omega), fun g => ⟨fun g2 => h0 a b e f (by omega), fun g2 => h5 (by omega)⟩⟩
  have td : c ≠ 46 → ¬ (49 ≤ c ∧ c ≤ 57) → (((¬ c = 35) → ((c < 97 → ((c < 120 → P0) ∧ (¬ c < 120 → ((122 < c → P0) ∧ (¬ 122 < c → Pw))))) ∧ ((¬ c < 97) → ((99 < c → ((c < 120 → P0) ∧ (¬ c < 120 → ((122 < c → P0) ∧ (¬ 122 < c → Pw))))) ∧ ((¬ 99 < c) → Pd))))) ∧ (c = 35 → Pst)) := fun a e => ⟨fun b => ⟨fun g => tw a b e (by omega), fun g => ⟨fun g2 => tw a b e (by omega), fun g2 => h4 (by omega)⟩⟩, h3⟩
  exact ⟨fun a => ⟨fun g => td a (by omega), fun g => ⟨fun g2 => td a (by omega), fun g2 => h2 (by omega)⟩⟩, h1⟩
theorem p_cell {c : Nat} (h47 : c ≠ 47) {r q x m s : Nat} {kd co nu : Nat → Nat} {dA wA : Nat → Option Nat} (hx : ¬ x = (if r = 0 then 5 else q)) : (c = 46 → p_step c (r, q, x, m, s, kd, co, nu, dA, wA) = some (r, q, x + 1, m + 1, s, p_up kd m 0, p_up co m 0, p_up nu m 0, dA, wA)) ∧ (c = 35 → p_step c (r, q, x, m, s, kd, co, nu, dA, wA) = some (r, q, x + 1, m + 1, s + 1, p_up kd m 1, p_up co m 0, p_up nu m 0, dA, wA)) ∧ (49 ≤ c ∧ c ≤ 57 → p_step c (r, q, x, m, s, kd, co, nu, dA, wA) = some (r, q, x + 1, m + 1, s, p_up kd m 0, p_up co m (c - 48), p_up nu m 0, dA, wA)) ∧ (97 ≤ c ∧ c ≤ 99 → p_step c (r, q, x, m, s, kd, co, nu, dA, wA) = if (dA (c - 97)).isSome then none else some (r, q, x + 1, m + 1, s, p_up kd m 2, p_up co m 0, p_up nu m (c - 97), p_up dA (c - 97) (some m), wA)) ∧ (120 ≤ c ∧ c ≤ 122 → p_step c (r, q, x, m, s, kd, co, nu, dA, wA) = if (wA (c - 120)).isSome then none else some (r, q, x + 1, m + 1, s, p_up kd m 3, p_up co m 0, p_up nu m (c - 120), dA, p_up wA (c - 120) (some m))) ∧ (c ≠ 46 → c ≠ 35 → ¬ (49 ≤ c ∧ c ≤ 57) → ¬ (97 ≤ c ∧ c ≤ 99) → ¬ (120 ≤ c ∧ c ≤ 122) → p_step c (r, q, x, m, s, kd, co, nu, dA, wA) = none) := by
  rw [p_step_e, if_neg h47, if_neg hx]
  refine ⟨fun a => by rw [if_pos a], fun a => by rw [if_neg (by omega), if_pos a], fun a => by rw [if_neg (by omega), if_neg (by omega), if_pos a], fun a => by rw [if_neg (by omega), if_neg (by omega), if_neg (by omega), if_pos a], fun a => by rw [if_neg (by omega), if_neg (by omega), if_neg (by omega), if_neg (by omega), if_pos a], fun a1 a2 a3 a4 a5 => by rw [if_neg a1, if_neg a2, if_neg a3, if_neg a4, if_neg a5]⟩
section Read
variable {X : Nat × (Nat → Int32)}
theorem c_addCell {d c : Nat} {M : q_M} {K : Int32 → q_M → Prop} {σ : p_S} (hd : 3 ≤ d) (hc : c < 256) (h47 : c ≠ 47) (hok : p_ok σ) (hr : c_rd M σ) (h1 : ∀ τ M', p_step c σ = some τ → d_fr M M' → c_rd M' τ → K 1 M') (h2 : p_step c σ = none → ∀ M', d_fr M M' → K 0 M') : q_Ci X d 19 [.ref 3, .int (nI c)] M K := by
  obtain ⟨r, q, x, m, s, kd, co, nu, dA, wA⟩ := σ
  obtain ⟨a1, a2, a3, a4, a5, a6, a7, a8⟩ := id hr
  obtain ⟨o1, o2, o3, o4, o5, o6, o7, -⟩ := id hok
  obtain ⟨m1, m2⟩ := p_ok_m hok
  have hsm : s ≤ 30 := by rw [o7]; exact Nat.le_trans (Nat.le_trans (List.length_filter_le _ _) (by rw [List.length_range]; exact Nat.le_refl _)) m1
  have rf : d_fr M M := fun _ _ => rfl
  -- at full width
  have full : x = (if r = 0 then 5 else q) → K 0 M := fun e => h2 (by rw [p_step_e, if_neg h47, if_pos e]) M rf
  -- the cell
  have cell : ¬ x = (if r = 0 then 5 else q) → ((((M 3 2) < 30) → (((¬ nI c = 46) → (((nI c < 49) → (((¬ nI c = 35) → (((nI c < 97) → (((nI c < 120) → (K 0 M)) ∧ ((¬ nI c < 120) → (((122 < nI c) → (K 0 M)) ∧ ((¬ 122 < nI c) → (q_Ci X (d - 1) 20 [.ref 3, .int 3, .int (nI c - 120), .ref 8] M (fun r11 M10 => (r11 = 0 ∨ r11 = 1) ∧ K r11 M10))))))) ∧ ((¬ nI c < 97) → (((99 < nI c) → (((nI c < 120) → (K 0 M)) ∧ ((¬ nI c < 120) → (((122 < nI c) → (K 0 M)) ∧ ((¬ 122 < nI c) → (q_Ci X (d - 1) 20 [.ref 3, .int 3, .int (nI c - 120), .ref 8] M (fun r16 M15 => (r16 = 0 ∨ r16 = 1) ∧ K r16 M15))))))) ∧ ((¬ 99 < nI c) → (q_Ci X (d - 1) 20 [.ref 3, .int 2, .int (nI c - 97), .ref 7] M (fun r18 M17 => (r18 = 0 ∨ r18 = 1) ∧ K r18 M17))))))) ∧ ((nI c = 35) → (q_Ci X (d - 1) 21 [.ref 3, .int 1, .int 0, .int (-9)] (q_set M 3 3 ((M 3 3) + 1)) (fun r20 M19 => (r20 = 0 ∨ r20 = 1) ∧ K r20 M19))))) ∧ ((¬ nI c < 49) → (((57 < nI c) → (((¬ nI c = 35) → (((nI c < 97) → (((nI c < 120) → (K 0 M)) ∧ ((¬ nI c < 120) → (((122 < nI c) → (K 0 M)) ∧ ((¬ 122 < nI c) → (q_Ci X (d - 1) 20 [.ref 3, .int 3, .int (nI c - 120), .ref 8] M (fun r27 M26 => (r27 = 0 ∨ r27 = 1) ∧ K r27 M26))))))) ∧ ((¬ nI c < 97) → (((99 < nI c) → (((nI c < 120) → (K 0 M)) ∧ ((¬ nI c < 120) → (((122 < nI c) → (K 0 M)) ∧ ((¬ 122 < nI c) → (q_Ci X (d - 1) 20 [.ref 3, .int 3, .int (nI c - 120), .ref 8] M (fun r32 M31 => (r32 = 0 ∨ r32 = 1) ∧ K r32 M31))))))) ∧ ((¬ 99 < nI c) → (q_Ci X (d - 1) 20 [.ref 3, .int 2, .int (nI c - 97), .ref 7] M (fun r34 M33 => (r34 = 0 ∨ r34 = 1) ∧ K r34 M33))))))) ∧ ((nI c = 35) → (q_Ci X (d - 1) 21 [.ref 3, .int 1, .int 0, .int (-9)] (q_set M 3 3 ((M 3 3) + 1)) (fun r36 M35 => (r36 = 0 ∨ r36 = 1) ∧ K r36 M35))))) ∧ ((¬ 57 < nI c) → (q_Ci X (d - 1) 21 [.ref 3, .int 0, .int (nI c - 48), .int (-9)] M (fun r38 M37 => (r38 = 0 ∨ r38 = 1) ∧ K r38 M37))))))) ∧ ((nI c = 46) → (q_Ci X (d - 1) 21 [.ref 3, .int 0, .int 0, .int (-9)] M (fun r40 M39 => (r40 = 0 ∨ r40 = 1) ∧ K r40 M39))))) ∧ ((¬ (M 3 2) < 30) → (K 0 M))) := by
    intro hx
    have hm := m2 hx
    obtain ⟨s1, s2, s3, s4, s5, s6⟩ := p_cell h47 (m := m) (s := s) (kd := kd) (co := co) (nu := nu) (dA := dA) (wA := wA) hx
    refine ⟨fun _ => ?_, fun g => absurd (by rw [a4]; exact (q_lt (b := 30) (by omega) (by decide)).mpr hm) g⟩
    refine l_treeC hc (fun b1 b2 b3 b4 b5 => h2 (s6 b1 b2 b3 b4 b5) M rf) (fun e => ?_) (fun e => ?_) (fun e => ?_) (fun e => ?_) (fun e => ?_)
    · exact c_put (k := 0) (p := 0) (v := 0) hm ⟨a1, a2, a3, a4, a5, a6, a7, a8⟩ rf rfl (fun M' f z => ⟨Or.inr rfl, h1 _ M' (s1 e) f z⟩)
    · rw [show nI c - 48 = nI (c - 48) from pk_sub (a := c) (b := 48) (by omega)]
      exact c_put (k := 0) (p := c - 48) (v := 0) hm ⟨a1, a2, a3, a4, a5, a6, a7, a8⟩ rf rfl (fun M' f z => ⟨Or.inr rfl, h1 _ M' (s3 e) f z⟩)
    · rw [a5, nI_1]
      refine c_put (k := 1) (p := 0) (v := 0) (r := r) (q := q) (x := x) (m := m) (s' := s + 1) (kd := kd) (co := co) (nu := nu) (dB := dA) (wB := wA) hm ⟨?_, ?_, ?_, ?_, ?_, ?_, fun i hi => ?_, fun n hn => ?_⟩ (M0 := M) (fun k hk => by rw [q_set_n (by omega)]) rfl (fun M' f z => ⟨Or.inr rfl, h1 _ M' (s2 e) f z⟩)
      · rw [q_set_ap, if_neg (by omega)]; exact a1
      · rw [q_set_ap, if_neg (by omega)]; exact a2
      · rw [q_set_ap, if_neg (by omega)]; exact a3
      · rw [q_set_ap, if_neg (by omega)]; exact a4
      · rw [q_set_ap, if_pos ⟨rfl, rfl⟩]
      · rw [q_set_ap, if_neg (by omega)]; exact a6
      · rw [q_set_n (by decide), q_set_n (by decide), q_set_n (by decide)]; exact a7 i hi
      · rw [q_set_n (by decide), q_set_n (by decide)]; exact a8 n hn
    · have hst := s4 e
      rw [show nI c - 97 = nI (c - 97) from pk_sub (a := c) (b := 97) (by omega)]
      have hv3 : vp_in (nI (c - 97)) 3 := q_vi (by omega) (by decide)
      refine vc20_7 (by omega) ⟨fun g => absurd g (q_nlt0 (by omega)), fun _ => ⟨fun g => absurd ((q_le (a := 3) (by decide) (by omega)).mp g) (by omega), fun _ => ⟨hv3, ?_⟩⟩⟩
      rw [q_cn (by omega), (a8 (c - 97) (by omega)).1]
      cases hdA : dA (c - 97) with
      | none =>
        rw [hdA, if_neg (by decide)] at hst
        refine ⟨fun _ => ⟨hv3, ?_⟩, fun g => absurd (show g_oi none < 0 by decide) g⟩
        rw [a4]
        refine c_put (k := 2) (p := 0) (v := c - 97) (r := r) (q := q) (x := x) (m := m) (s' := s) (kd := kd) (co := co) (nu := nu) (dB := p_up dA (c - 97) (some m)) (wB := wA) hm ⟨?_, ?_, ?_, ?_, ?_, ?_, fun i hi => ?_, fun n hn => ⟨?_, ?_⟩⟩ (M0 := M) (fun k hk => by rw [q_set_n (by omega)]) rfl (fun M' f z => ⟨Or.inr rfl, Or.inr rfl, h1 _ M' hst f z⟩)
        · rw [q_set_n (by decide)]; exact a1
        · rw [q_set_n (by decide)]; exact a2
        · rw [q_set_n (by decide)]; exact a3
        · rw [q_set_n (by decide)]; exact a4
        · rw [q_set_n (by decide)]; exact a5
        · rw [q_set_n (by decide)]; exact a6
        · rw [q_set_n (by decide), q_set_n (by decide), q_set_n (by decide)]; exact a7 i hi
        · rw [q_set_ap]
          by_cases z : n = c - 97
          · subst z; rw [if_pos ⟨rfl, rfl⟩, p_up_s]; rfl
          · rw [if_neg (fun y => z y.2), p_up_n z]; exact (a8 n hn).1
        · rw [q_set_n (by decide)]; exact (a8 n hn).2
      | some t =>
        rw [hdA, if_pos (show (some t).isSome = true from rfl)] at hst
        have ht := (hok.2.2.2.2.2.2.2.2.1 (c - 97) t (by omega) hdA).1
        exact ⟨fun g => absurd g (q_nlt0 (by omega)), fun _ => ⟨Or.inl rfl, h2 hst M rf⟩⟩
    · have hst := s5 e
      rw [show nI c - 120 = nI (c - 120) from pk_sub (a := c) (b := 120) (by omega)]
      have hv3 : vp_in (nI (c - 120)) 3 := q_vi (by omega) (by decide)
      refine vc20_8 (by omega) ⟨fun g => absurd g (q_nlt0 (by omega)), fun _ => ⟨fun g => absurd ((q_le (a := 3) (by decide) (by omega)).mp g) (by omega), fun _ => ⟨hv3, ?_⟩⟩⟩
      rw [q_cn (by omega), (a8 (c - 120) (by omega)).2]
      cases hdA : wA (c - 120) with
      | none =>
        rw [hdA, if_neg (by decide)] at hst
        refine ⟨fun _ => ⟨hv3, ?_⟩, fun g => absurd (show g_oi none < 0 by decide) g⟩
        rw [a4]
        refine c_put (k := 3) (p := 0) (v := c - 120) (r := r) (q := q) (x := x) (m := m) (s' := s) (kd := kd) (co := co) (nu := nu) (dB := dA) (wB := p_up wA (c - 120) (some m)) hm ⟨?_, ?_, ?_, ?_, ?_, ?_, fun i hi => ?_, fun n hn => ⟨?_, ?_⟩⟩ (M0 := M) (fun k hk => by rw [q_set_n (by omega)]) rfl (fun M' f z => ⟨Or.inr rfl, Or.inr rfl, h1 _ M' hst f z⟩)
        · rw [q_set_n (by decide)]; exact a1
        · rw [q_set_n (by decide)]; exact a2
        · rw [q_set_n (by decide)]; exact a3
        · rw [q_set_n (by decide)]; exact a4
        · rw [q_set_n (by decide)]; exact a5
        · rw [q_set_n (by decide)]; exact a6
        · rw [q_set_n (by decide), q_set_n (by decide), q_set_n (by decide)]; exact a7 i hi
        · rw [q_set_n (by decide)]; exact (a8 n hn).1
        · rw [q_set_ap]
          by_cases z : n = c - 120
          · rw [z, if_pos (And.intro (Eq.refl 8) (Eq.refl (c - 120))), p_up_s]
            exact (show nI m = g_oi (some m) from rfl)
          · rw [if_neg (fun y => z y.2), p_up_n z]; exact (a8 n hn).2
      | some t =>
        rw [hdA, if_pos (show (some t).isSome = true from rfl)] at hst
        have ht := (hok.2.2.2.2.2.2.2.2.2 (c - 120) t (by omega) hdA).1
        exact ⟨fun g => absurd g (q_nlt0 (by omega)), fun _ => ⟨Or.inl rfl, h2 hst M rf⟩⟩
  refine vc19 (by omega) ?_
  have e1 : (M 3 1 = 0) ↔ r = 0 := by
    rw [a2, show (0 : Int32) = nI 0 from rfl, q_eq (by omega) (by decide), o2]
  rw [e1]
  refine ⟨fun g => ?_, fun g => ?_⟩
  · rw [if_neg g] at full cell o5
    rw [a2, a3]
    refine ⟨fun g2 => full (by have := (q_le (by omega) (by omega)).mp g2; omega), fun g2 => cell (fun e => g2 ((q_le (by omega) (by omega)).mpr (by omega)))⟩
  · rw [if_pos g] at full cell o5
    rw [a3]
    refine ⟨fun g2 => full (by have := (q_le (a := 5) (by decide) (by omega)).mp g2; omega), fun g2 => cell (fun e => g2 ((q_le (a := 5) (by decide) (by omega)).mpr (by omega)))⟩
end Read
