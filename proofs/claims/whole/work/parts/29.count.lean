/-! how many bits -/
def n_pc : Nat → Nat → Nat
  | 0, _ => 0
  | k + 1, a => n_pc k a + (if a.testBit k then 1 else 0)
def n_p1 (m a : Nat) : Nat := a - (a / 2 &&& m)
def n_p2 (m a : Nat) : Nat := (a &&& m) + (a / 4 &&& m)
theorem n_spl (k l H m M : Nat) (hl : l < 256) (hk : k ≤ 8) (hm : m < 2 ^ (8 - k)) : ((l + 256 * H) / 2 ^ k) &&& (m + 256 * M) = (l / 2 ^ k &&& m) + 256 * (H / 2 ^ k &&& M) := by
  have hm8 : m < 2 ^ 8 := Nat.lt_of_lt_of_le hm (Nat.pow_le_pow_right (by decide) (by omega))
  have hl8 : l < 2 ^ 8 := hl
  have ha8 : (l / 2 ^ k &&& m) < 2 ^ 8 := Nat.lt_of_le_of_lt Nat.and_le_right hm8
  apply Nat.eq_of_testBit_eq
  intro i
  rw [show l + 256 * H = 2 ^ 8 * H + l by omega, show m + 256 * M = 2 ^ 8 * M + m by omega, show (l / 2 ^ k &&& m) + 256 * (H / 2 ^ k &&& M) = 2 ^ 8 * (H / 2 ^ k &&& M) + (l / 2 ^ k &&& m) by omega, Nat.testBit_and, Nat.testBit_div_two_pow, Nat.testBit_two_pow_mul_add _ hl8, Nat.testBit_two_pow_mul_add _ hm8, Nat.testBit_two_pow_mul_add _ ha8, Nat.testBit_and, Nat.testBit_and, Nat.testBit_div_two_pow, Nat.testBit_div_two_pow]
  by_cases h : i < 8
  · rw [if_pos h, if_pos h]
    by_cases h2 : i + k < 8
    · rw [if_pos h2]
    · have hz : m.testBit i = false := Nat.testBit_lt_two_pow (Nat.lt_of_lt_of_le hm (Nat.pow_le_pow_right (by decide) (by omega)))
      rw [hz, Bool.and_false, Bool.and_false]
  · rw [if_neg h, if_neg h, if_neg (by omega), show i + k - 8 = i - 8 + k by omega]
theorem n_p1s (l H M : Nat) (hl : l < 256) : n_p1 (85 + 256 * M) (l + 256 * H) = n_p1 85 l + 256 * n_p1 M H := by
  unfold n_p1
  have e := n_spl 1 l H 85 M hl (by decide) (by decide)
  rw [show 2 ^ 1 = 2 from rfl] at e
  rw [e]
  have h1 : (l / 2 &&& 85) ≤ l / 2 := Nat.and_le_left
  have h2 : (H / 2 &&& M) ≤ H / 2 := Nat.and_le_left
  omega
theorem n_p2s (l H M : Nat) (hl : l < 256) : n_p2 (51 + 256 * M) (l + 256 * H) = n_p2 51 l + 256 * n_p2 M H := by
  unfold n_p2
  have e0 := n_spl 0 l H 51 M hl (by decide) (by decide)
  have e := n_spl 2 l H 51 M hl (by decide) (by decide)
  rw [show 2 ^ 2 = 4 from rfl] at e
  simp only [Nat.pow_zero, Nat.div_one] at e0
  rw [e, e0]
  omega
theorem n_tab : ∀ b, b < 256 → (n_p1 85 b < 256 ∧ n_p2 51 (n_p1 85 b) / 16 ≤ 4 ∧ n_p2 51 (n_p1 85 b) % 16 ≤ 4 ∧ n_p2 51 (n_p1 85 b) < 256 ∧ n_p2 51 (n_p1 85 b) / 16 + n_p2 51 (n_p1 85 b) % 16 = n_pc 8 b) := by decide +kernel
theorem n_pc_spl (l H : Nat) (hl : l < 256) : ∀ k, n_pc (k + 8) (l + 256 * H) = n_pc 8 l + n_pc k H := by
  have hl8 : l < 2 ^ 8 := hl
  have e1 : l + 256 * H = 2 ^ 8 * H + l := by omega
  have tb : ∀ i, (2 ^ 8 * H + l).testBit i = if i < 8 then l.testBit i else H.testBit (i - 8) := fun i => Nat.testBit_two_pow_mul_add _ hl8 i
  have low : ∀ j, j ≤ 8 → n_pc j (2 ^ 8 * H + l) = n_pc j l := by
    intro j
    induction j with
    | zero => intro _; rfl
    | succ j ih =>
      intro hj
      have e := tb j
      rw [if_pos (show j < 8 by omega)] at e
      rw [n_pc, n_pc, ih (by omega), e]
  intro k
  rw [e1]
  induction k with
  | zero => rw [Nat.zero_add, low 8 (Nat.le_refl 8)]; rfl
  | succ k ih =>
    have e := tb (k + 8)
    rw [if_neg (show ¬ k + 8 < 8 by omega), show k + 8 - 8 = k by omega] at e
    show n_pc (k + 8) (2 ^ 8 * H + l) + (if (2 ^ 8 * H + l).testBit (k + 8) then 1 else 0) = n_pc 8 l + (n_pc k H + (if H.testBit k then 1 else 0))
    rw [ih, e]
    omega
theorem n_pc32 (a : Nat) (ha : a < 2 ^ 30) : n_pc 32 a = n_pc 8 (a % 256) + (n_pc 8 (a / 256 % 256) + (n_pc 8 (a / 65536 % 256) + n_pc 8 (a / 16777216))) := by
  have e : a = a % 256 + 256 * (a / 256 % 256 + 256 * (a / 65536 % 256 + 256 * (a / 16777216))) := by omega
  have h1 := n_pc_spl (a % 256) (a / 256 % 256 + 256 * (a / 65536 % 256 + 256 * (a / 16777216))) (by omega) 24
  have h2 := n_pc_spl (a / 256 % 256) (a / 65536 % 256 + 256 * (a / 16777216)) (by omega) 16
  have h3 := n_pc_spl (a / 65536 % 256) (a / 16777216) (by omega) 8
  rw [← e] at h1
  rw [h1, h2, h3]
theorem n_and15 (x : Nat) : x &&& 15 = x % 16 := Nat.and_two_pow_sub_one_eq_mod x 4
theorem n_pop (a : Nat) (ha : a < 2 ^ 30) : (n_p1 1431655765 a < 2 ^ 31) ∧ (n_p2 858993459 (n_p1 1431655765 a) < 2 ^ 31) ∧ ∃ n0 n1 n2 n3, n0 ≤ 8 ∧ n1 ≤ 8 ∧ n2 ≤ 8 ∧ n3 ≤ 8 ∧ (n_p2 858993459 (n_p1 1431655765 a) + n_p2 858993459 (n_p1 1431655765 a) / 16) &&& 252645135 = n0 + 256 * (n1 + 256 * (n2 + 256 * n3)) ∧ n_pc 32 a = n0 + (n1 + (n2 + n3)) := by
  rw [n_pc32 a ha]
  generalize hb0 : a % 256 = b0
  generalize hb1 : a / 256 % 256 = b1
  generalize hb2 : a / 65536 % 256 = b2
  generalize hb3 : a / 16777216 = b3
  have e : a = b0 + 256 * (b1 + 256 * (b2 + 256 * b3)) := by omega
  have l0 : b0 < 256 := by omega
  have l1 : b1 < 256 := by omega
  have l2 : b2 < 256 := by omega
  have l3 : b3 < 256 := by omega
  obtain ⟨q0, u0, v0, y0, t0⟩ := n_tab b0 l0
  obtain ⟨q1, u1, v1, y1, t1⟩ := n_tab b1 l1
  obtain ⟨q2, u2, v2, y2, t2⟩ := n_tab b2 l2
  obtain ⟨q3, u3, v3, y3, t3⟩ := n_tab b3 l3
  have e1 : n_p1 1431655765 a = n_p1 85 b0 + 256 * (n_p1 85 b1 + 256 * (n_p1 85 b2 + 256 * n_p1 85 b3)) := by
    rw [e, show 1431655765 = 85 + 256 * (85 + 256 * (85 + 256 * 85)) from rfl, n_p1s _ _ _ l0, n_p1s _ _ _ l1, n_p1s _ _ _ l2]
  have e2 : n_p2 858993459 (n_p1 1431655765 a) = n_p2 51 (n_p1 85 b0) + 256 * (n_p2 51 (n_p1 85 b1) + 256 * (n_p2 51 (n_p1 85 b2) + 256 * n_p2 51 (n_p1 85 b3))) := by
    rw [e1, show 858993459 = 51 + 256 * (51 + 256 * (51 + 256 * 51)) from rfl, n_p2s _ _ _ q0, n_p2s _ _ _ q1, n_p2s _ _ _ q2]
  have lt1 : n_p1 1431655765 a ≤ a := Nat.sub_le _ _
  rw [e2]
  refine ⟨by omega, ?_⟩
  rw [← t0, ← t1, ← t2, ← t3]
  generalize n_p2 51 (n_p1 85 b0) = z0 at *
  generalize n_p2 51 (n_p1 85 b1) = z1 at *
  generalize n_p2 51 (n_p1 85 b2) = z2 at *
  generalize n_p2 51 (n_p1 85 b3) = z3 at *
  refine ⟨by omega, z0 / 16 + z0 % 16, z1 / 16 + z1 % 16, z2 / 16 + z2 % 16, z3 / 16 + z3 % 16, by omega, by omega, by omega, by omega, ?_, rfl⟩
  have es : z0 + 256 * (z1 + 256 * (z2 + 256 * z3)) + (z0 + 256 * (z1 + 256 * (z2 + 256 * z3))) / 16 = (z0 + z0 / 16 + 16 * (z1 % 16)) + 256 * ((z1 + z1 / 16 + 16 * (z2 % 16)) + 256 * ((z2 + z2 / 16 + 16 * (z3 % 16)) + 256 * (z3 + z3 / 16))) := by omega
  rw [es, show 252645135 = 15 + 256 * (15 + 256 * (15 + 256 * 15)) from rfl]
  have s := fun l H m M hl hm => n_spl 0 l H m M hl (by decide) hm
  simp only [Nat.pow_zero, Nat.div_one] at s
  rw [s _ _ 15 _ (by omega) (by decide), s _ _ 15 _ (by omega) (by decide), s _ _ 15 _ (by omega) (by decide), n_and15, n_and15, n_and15, n_and15]
  have f0 : (z0 + z0 / 16 + 16 * (z1 % 16)) % 16 = z0 / 16 + z0 % 16 := by clear es s; omega
  have f1 : (z1 + z1 / 16 + 16 * (z2 % 16)) % 16 = z1 / 16 + z1 % 16 := by clear es s; omega
  have f2 : (z2 + z2 / 16 + 16 * (z3 % 16)) % 16 = z2 / 16 + z2 % 16 := by clear es s; omega
  have f3 : (z3 + z3 / 16) % 16 = z3 / 16 + z3 % 16 := by clear es s; omega
  rw [f0, f1, f2, f3]
theorem c_bitCount {X : Nat × (Nat → Int32)} {d a : Nat} {M : q_M} {K : Int32 → q_M → Prop} (ha : a < 2 ^ 30) (h : K (nI (n_pc 32 a)) M) : q_Ci X d 155 [.int (nI a)] M K := by
  obtain ⟨p1, p2, n0, n1, n2, n3, c0, c1, c2, c3, p3, p4⟩ := n_pop a ha
  have lt1 : a / 2 &&& 1431655765 ≤ a / 2 := Nat.and_le_left
  have A : nI a - ((Int32.toUInt32 (nI a) >>> (Int32.toUInt32 1 &&& Int32.toUInt32 31)).toInt32 &&& 1431655765) = nI (n_p1 1431655765 a) := by
    rw [pk_ushrN (by omega) 1 1 (by decide), show (1431655765 : Int32) = nI 1431655765 from rfl, n_and, show 2 ^ 1 = 2 from rfl, pk_sub (by omega)]
    rfl
  have B : (nI (n_p1 1431655765 a) &&& 858993459) + ((Int32.toUInt32 (nI (n_p1 1431655765 a)) >>> (Int32.toUInt32 2 &&& Int32.toUInt32 31)).toInt32 &&& 858993459) = nI (n_p2 858993459 (n_p1 1431655765 a)) := by
    rw [pk_ushrN (by omega) 2 2 (by decide), show (858993459 : Int32) = nI 858993459 from rfl, n_and, n_and, nI_add]
    rfl
  generalize n_p2 858993459 (n_p1 1431655765 a) = z at B p2 p3
  have C : (nI z + (Int32.toUInt32 (nI z) >>> (Int32.toUInt32 4 &&& Int32.toUInt32 31)).toInt32) &&& 252645135 = nI (n0 + 256 * (n1 + 256 * (n2 + 256 * n3))) := by
    rw [pk_ushrN (by omega) 4 4 (by decide), nI_add, show (252645135 : Int32) = nI 252645135 from rfl, n_and, show 2 ^ 4 = 16 from rfl, p3]
  generalize hs : n0 + 256 * (n1 + 256 * (n2 + 256 * n3)) = s at C
  have D : nI s + (Int32.toUInt32 (nI s) >>> (Int32.toUInt32 8 &&& Int32.toUInt32 31)).toInt32 = nI (s + s / 256) := by
    rw [pk_ushrN (by omega) 8 8 (by decide), nI_add]
  have E : (nI (s + s / 256) + (Int32.toUInt32 (nI (s + s / 256)) >>> (Int32.toUInt32 16 &&& Int32.toUInt32 31)).toInt32) &&& 63 = nI (n_pc 32 a) := by
    have h1 : s / 256 = n1 + 256 * (n2 + 256 * n3) := by omega
    have h2 : (s + s / 256) / 2 ^ 16 = n2 + n3 + 256 * n3 := by rw [h1]; omega
    rw [pk_ushrN (by omega) 16 16 (by decide), nI_add, pk_andN (by omega) 6 rfl, p4, h2, h1]
    congr 1
    omega
  refine vc155 ?_
  rw [A, B, C, D, E]
  exact h
theorem n_pc_set {c x : Nat} (hx : x.testBit c = false) : ∀ N, n_pc N (2 ^ c ||| x) = n_pc N x + (if c < N then 1 else 0) := by
  intro N
  induction N with
  | zero => simp [n_pc]
  | succ N ih =>
    rw [n_pc, n_pc, ih, Nat.testBit_or, Nat.testBit_two_pow]
    by_cases e : c = N
    · subst e
      rw [hx]
      simp
    · rw [decide_eq_false e, Bool.false_or]
      by_cases e2 : c < N
      · rw [if_pos e2, if_pos (show c < N + 1 by omega)]; omega
      · rw [if_neg e2, if_neg (show ¬ c < N + 1 by omega)]; omega
theorem n_pc_0 : ∀ N, n_pc N 0 = 0 := by
  intro N
  induction N with
  | zero => rfl
  | succ N ih => rw [n_pc, ih]; simp
/-! ways are chains of steps -/
def g_lk (R C : Nat) (kd : Nat → Nat) : List Nat → Prop
  | a :: b :: r => (∃ st, st < 2 ∧ g_nx R C kd a st = some b) ∧ g_lk R C kd (b :: r)
  | _ => True
theorem g_pth_lk {R C : Nat} {kd : Nat → Nat} (hC : 0 < C) : ∀ (f c : Nat), c < R * C → ∀ p ∈ g_pth R C kd f c, g_lk R C kd p := by
  intro f
  induction f with
  | zero =>
    intro c hc p hp
    unfold g_pth at hp
    by_cases h : kd c = 3
    · rw [if_pos h] at hp; simp at hp; subst hp; trivial
    · rw [if_neg h] at hp; simp at hp
  | succ f ih =>
    intro c hc p hp
    unfold g_pth at hp
    by_cases h : kd c = 3
    · rw [if_pos h] at hp; simp at hp; subst hp; trivial
    · rw [if_neg h] at hp
      by_cases h2 : kd c = 2
      · rw [if_pos h2] at hp; simp at hp
      · rw [if_neg h2] at hp
        obtain ⟨q, hq, rfl⟩ := List.mem_map.mp hp
        have go : ∀ st, st < 2 → q ∈ g_o (g_nx R C kd c st) (g_pth R C kd f) → g_lk R C kd (c :: q) := by
          intro st hst h
          cases hn : g_nx R C kd c st with
          | none => rw [hn] at h; simp [g_o] at h
          | some t =>
            rw [hn] at h
            have ht := (g_nx_far hC hc hn).1
            have i1 := ih t ht q h
            have i2 := (g_pth_in hC f t ht q h).2.1
            cases q with
            | nil => trivial
            | cons x r =>
              simp at i2
              subst i2
              exact ⟨⟨st, hst, hn⟩, i1⟩
        rcases List.mem_append.mp hq with h | h
        · exact go 0 (by decide) h
        · exact go 1 (by decide) h
theorem g_wy_lk {R C : Nat} {kd : Nat → Nat} (hC : 0 < C) {c : Nat} (hc : c < R * C) : ∀ p ∈ g_wy R C kd c, g_lk R C kd p ∧ p[0]? = some c := by
  intro p hp
  unfold g_wy at hp
  obtain ⟨q, hq, rfl⟩ := List.mem_map.mp hp
  refine ⟨?_, rfl⟩
  have go : ∀ st, st < 2 → q ∈ g_o (g_nx R C kd c st) (g_pth R C kd 10) → g_lk R C kd (c :: q) := by
    intro st hst h
    cases hn : g_nx R C kd c st with
    | none => rw [hn] at h; simp [g_o] at h
    | some t =>
      rw [hn] at h
      have ht := (g_nx_far hC hc hn).1
      have i1 := g_pth_lk hC 10 t ht q h
      have i2 := (g_pth_in hC 10 t ht q h).2.1
      cases q with
      | nil => trivial
      | cons x r =>
        simp at i2
        subst i2
        exact ⟨⟨st, hst, hn⟩, i1⟩
  rcases List.mem_append.mp hq with h | h
  · exact go 0 (by decide) h
  · exact go 1 (by decide) h
theorem g_nx_to {R C : Nat} {kd : Nat → Nat} (hC : 2 ≤ C) {a b st : Nat} (ha : a < R * C) (hst : st < 2) (h : g_nx R C kd a st = some b) : b < R * C ∧ ((st = 0 ∧ b = a + C ∧ b % C = a % C) ∨ (st = 1 ∧ b = a + 1 ∧ b % C = a % C + 1)) := by
  rcases (show st = 0 ∨ st = 1 by omega) with rfl | rfl
  · obtain ⟨rfl, h1, -⟩ := g_nx0 h
    exact ⟨h1, Or.inl ⟨rfl, rfl, (g_down (by omega) h1).2.1⟩⟩
  · obtain ⟨rfl, h1, -⟩ := g_nx1 h
    obtain ⟨h2, -, h3⟩ := g_right (by omega) ha h1
    exact ⟨h2, Or.inr ⟨rfl, rfl, h3⟩⟩
theorem lk_all {R C : Nat} {kd : Nat → Nat} (hC : 2 ≤ C) : ∀ (r : List Nat) (a : Nat), a < R * C → g_lk R C kd (a :: r) → ∀ y ∈ r, a < y ∧ a % C ≤ y % C ∧ y < R * C := by
  intro r
  induction r with
  | nil => intro a _ _ y hy; simp at hy
  | cons b r ih =>
    intro a ha h y hy
    obtain ⟨⟨st, hst, h1⟩, h2⟩ := h
    obtain ⟨hb, h3⟩ := g_nx_to hC ha hst h1
    have hab : a < b ∧ a % C ≤ b % C := by
      rcases h3 with ⟨-, e, e2⟩ | ⟨-, e, e2⟩
      · exact ⟨by omega, by omega⟩
      · exact ⟨by omega, by omega⟩
    rcases List.mem_cons.mp hy with e | hy
    · subst e; exact ⟨hab.1, hab.2, hb⟩
    · obtain ⟨a1, a2, a3⟩ := ih b hb h2 y hy
      exact ⟨by omega, by omega, a3⟩
theorem lk_pair {R C : Nat} {kd : Nat → Nat} (hC : 2 ≤ C) : ∀ (p : List Nat), (∀ x ∈ p, x < R * C) → g_lk R C kd p → ∀ (i j x y : Nat), i < j → p[i]? = some x → p[j]? = some y → x < y ∧ x % C ≤ y % C := by
  intro p
  induction p with
  | nil => intro _ _ i j x y _ hx; simp at hx
  | cons a r ih =>
    intro hp h i j x y hij hx hy
    obtain ⟨j', rfl⟩ : ∃ j', j = j' + 1 := ⟨j - 1, by omega⟩
    have hy' : r[j']? = some y := by simpa using hy
    cases i with
    | zero =>
      simp at hx
      subst hx
      obtain ⟨a1, a2, -⟩ := lk_all hC r a (hp a List.mem_cons_self) h y (List.mem_of_getElem? hy')
      exact ⟨a1, a2⟩
    | succ i =>
      have h2 : g_lk R C kd r := by
        cases r with
        | nil => trivial
        | cons b r => exact h.2
      exact ih (fun x hx => hp x (List.mem_cons_of_mem _ hx)) h2 i j' x y (by omega) (by simpa using hx) hy'
theorem lk_at {R C : Nat} {kd : Nat → Nat} : ∀ (p : List Nat), g_lk R C kd p → ∀ (k a b : Nat), p[k]? = some a → p[k + 1]? = some b → ∃ st, st < 2 ∧ g_nx R C kd a st = some b := by
  intro p
  induction p with
  | nil => intro _ k a b hx; simp at hx
  | cons c r ih =>
    intro h k a b ha hb
    cases r with
    | nil => simp at hb
    | cons e r =>
      cases k with
      | zero => simp at ha hb; subst ha; subst hb; exact h.1
      | succ k => exact ih h.2 k a b (by simpa using ha) (by simpa using hb)
theorem lk_step {R C : Nat} {kd : Nat → Nat} (hC : 2 ≤ C) {p : List Nat} (hp : ∀ x ∈ p, x < R * C) (h : g_lk R C kd p) {k a b : Nat} (ha : p[k]? = some a) (hb : p[k + 1]? = some b) : (b = a + C ∧ a + C ∈ p) ∨ (b = a + 1 ∧ ¬ a + C ∈ p) := by
  obtain ⟨st, hst, h1⟩ := lk_at p h k a b ha hb
  obtain ⟨-, h3⟩ := g_nx_to hC (hp a (List.mem_of_getElem? ha)) hst h1
  rcases h3 with ⟨-, e, -⟩ | ⟨-, e, e2⟩
  · exact Or.inl ⟨e, by rw [← e]; exact List.mem_of_getElem? hb⟩
  · refine Or.inr ⟨e, fun hm => ?_⟩
    obtain ⟨j, hj⟩ := List.getElem?_of_mem hm
    have hmod : (a + C) % C = a % C := Nat.add_mod_right a C
    rcases Nat.lt_trichotomy j (k + 1) with q | q | q
    · rcases (show j < k ∨ j = k by omega) with q2 | q2
      · have := (lk_pair hC p hp h j k (a + C) a q2 hj ha).1; omega
      · subst q2; rw [ha] at hj; have := Option.some.inj hj; omega
    · subst q; rw [hb] at hj; have := Option.some.inj hj; omega
    · have := (lk_pair hC p hp h (k + 1) j b (a + C) q hb hj).2; omega
theorem lk_len {R C : Nat} {kd : Nat → Nat} (hC : 2 ≤ C) {p : List Nat} (hp : ∀ x ∈ p, x < R * C) (h : g_lk R C kd p) : p.length ≤ R * C := by
  have key : ∀ (k x : Nat), p[k]? = some x → k ≤ x := by
    intro k
    induction k with
    | zero => intro x _; exact Nat.zero_le x
    | succ k ih =>
      intro x hx
      have hk : k < p.length := by have := (List.getElem?_eq_some_iff.mp hx).1; omega
      have h1 := ih p[k] (List.getElem?_eq_getElem hk)
      have h2 := (lk_pair hC p hp h k (k + 1) p[k] x (by omega) (List.getElem?_eq_getElem hk) hx).1
      omega
  rcases Nat.eq_zero_or_pos p.length with e | e
  · omega
  · have hk : p.length - 1 < p.length := by omega
    have h1 := key _ p[p.length - 1] (List.getElem?_eq_getElem hk)
    have h2 := hp p[p.length - 1] (List.getElem_mem hk)
    omega
theorem lk_pc {R C : Nat} {kd : Nat → Nat} (hC : 2 ≤ C) (hN : R * C ≤ 32) : ∀ (p : List Nat), (∀ x ∈ p, x < R * C) → g_lk R C kd p → n_pc 32 (g_bits p) = p.length := by
  intro p
  induction p with
  | nil => intro _ _; exact n_pc_0 32
  | cons a r ih =>
    intro hp h
    have ha := hp a List.mem_cons_self
    have h2 : g_lk R C kd r := by
      cases r with
      | nil => trivial
      | cons b r => exact h.2
    have hn : (g_bits r).testBit a = false := by
      cases hb : (g_bits r).testBit a with
      | false => rfl
      | true =>
        have := (lk_all hC r a ha h a ((g_bits_tb r a).mp hb)).1
        omega
    rw [g_bits, n_pc_set hn, ih (fun x hx => hp x (List.mem_cons_of_mem _ hx)) h2, if_pos (by omega)]
    simp
theorem g_code_lt : ∀ (p : List Nat) (k : Nat), g_code k p < 2 ^ (k + p.length) := by
  intro p
  induction p with
  | nil => intro k; exact Nat.two_pow_pos _
  | cons a r ih =>
    intro k
    cases r with
    | nil => exact Nat.two_pow_pos _
    | cons b r =>
      have h := ih (k + 1)
      rw [show k + 1 + (b :: r).length = k + (a :: b :: r).length by simp; omega] at h
      unfold g_code
      refine Nat.or_lt_two_pow ?_ h
      split
      · exact Nat.pow_lt_pow_right (by decide) (by simp)
      · exact Nat.two_pow_pos _
theorem g_code_tb : ∀ (p : List Nat) (k i : Nat), (g_code k p).testBit i = true ↔ ∃ j a, i = k + j ∧ p[j]? = some a ∧ p[j + 1]? = some (a + 1) := by
  intro p
  induction p with
  | nil => intro k i; simp [g_code]
  | cons a r ih =>
    intro k i
    cases r with
    | nil => simp [g_code]
    | cons b r =>
      rw [g_code, Nat.testBit_or, Bool.or_eq_true, ih]
      constructor
      · rintro (h | ⟨j, x, h1, h2, h3⟩)
        · by_cases e : b = a + 1
          · rw [if_pos e, Nat.testBit_two_pow, decide_eq_true_eq] at h
            exact ⟨0, a, by omega, rfl, by rw [← e]; rfl⟩
          · rw [if_neg e] at h; simp at h
        · exact ⟨j + 1, x, by omega, by simpa using h2, by simpa using h3⟩
      · rintro ⟨j, x, h1, h2, h3⟩
        cases j with
        | zero =>
          simp at h2 h3
          subst h2
          left
          rw [if_pos h3, Nat.testBit_two_pow, decide_eq_true_eq]
          omega
        | succ j => exact Or.inr ⟨j, x, by omega, by simpa using h2, by simpa using h3⟩
/-- the answer for a step of a way -/
def g_stp (p : List Nat) (s : Nat) : Int32 := if s + 1 < p.length then nI (if (g_code 0 p).testBit s then 1 else 0) else -9
section Stp
variable {X : Nat × (Nat → Int32)} {R C n : Nat} {kd co nu dc wc : Nat → Nat}
theorem c_stepOfWay (hw : b_wf R C n kd co nu dc wc) {d dr s : Nat} {p : List Nat} {M : q_M} {K : Int32 → q_M → Prop} (hd : 3 ≤ d) (hb : b_now M R C n kd co nu dc wc) (hdr : dr < n) (hs : s < 2 ^ 31) (hp : p ∈ g_wy R C kd (dc dr)) (h : K (g_stp p s) M) : q_Ci X d 29 [.ref 11, .int (nI (g_bits p)), .int (nI dr), .int (nI s)] M K := by
  have hRC := b_RC hw
  have hdc := (hw.2.2.2.2.2.1 dr hdr).1
  obtain ⟨hR2, hC2⟩ := b_Cpos hw hdc
  have hC5 := hw.2.1
  obtain ⟨lk, l0⟩ := g_wy_lk (by omega) hdc p hp
  have hcell := (g_wy_ok hw.r hdc p hp).1
  have hlen := lk_len hC2 hcell lk
  have hgb := g_bits_31 hcell hRC
  have hpos : 0 < p.length := (List.getElem?_eq_some_iff.mp l0).1
  refine vc29 (by omega) (c_bitCount hgb ?_)
  rw [lk_pc hC2 (by omega) p hcell lk, show nI p.length - 1 = nI (p.length - 1) from pk_sub (a := p.length) (b := 1) (by omega), q_lt hs (by omega)]
  refine ⟨fun g => c_cellOfDoor hw (by omega) hb hdr ?_, fun g => ?_⟩
  · have loop : ∀ (j i a : Nat), i + j = s → p[i]? = some a → q_Ex X d 29 23 [some (.ref 11), some (.int (nI (g_bits p))), none, some (.int (nI s)), some (.int (nI a)), some (.int (nI i))] [] M (q_ri K) := by
      intro j
      induction j with
      | zero =>
        intro i a hi ha
        have e : i = s := by omega
        subst e
        have hi1 : i + 1 < p.length := by omega
        have hbb : p[i + 1]? = some p[i + 1] := List.getElem?_eq_getElem hi1
        have haN := hcell a (List.mem_of_getElem? ha)
        have st := lk_step hC2 hcell lk ha hbb
        have htb := g_code_tb p 0 i
        rw [g_stp, if_pos hi1] at h
        refine vc29_p23 (by omega) ⟨fun _ => ?_, fun g2 => absurd ((q_le hs hs).mpr (Nat.le_refl _)) g2⟩
        rw [hb.2.1, nI_add]
        refine c_isIn (by omega) (by omega) (fun h30 hbit => ⟨fun g => absurd g (by decide), fun _ => ?_⟩) (fun hbit => ⟨fun _ => ?_, fun g => absurd rfl g⟩)
        · have hm := (g_bits_tb p _).mp hbit
          rcases st with ⟨e1, -⟩ | ⟨-, e2⟩
          · rw [if_neg (fun q => ?_)] at h
            · exact h
            · obtain ⟨j2, a2, q1, q2, q3⟩ := htb.mp q
              have e3 : j2 = i := by omega
              subst e3
              rw [ha] at q2; cases q2
              rw [hbb] at q3
              have := Option.some.inj q3
              omega
          · exact absurd hm e2
        · have hm : ¬ a + C ∈ p := fun hm => by
            have h30 := hcell _ hm
            rw [(g_bits_tb p _).mpr hm] at hbit
            exact absurd (hbit (by omega)) (by decide)
          rcases st with ⟨-, e2⟩ | ⟨e1, -⟩
          · exact absurd e2 hm
          · rw [if_pos (htb.mpr ⟨i, a, by omega, ha, by rw [hbb, e1]⟩)] at h
            exact h
      | succ j ih =>
        intro i a hi ha
        have hi1 : i + 1 < p.length := by omega
        have hbb : p[i + 1]? = some p[i + 1] := List.getElem?_eq_getElem hi1
        have haN := hcell a (List.mem_of_getElem? ha)
        have st := lk_step hC2 hcell lk ha hbb
        refine vc29_p23 (by omega) ⟨fun g2 => absurd ((q_le hs (by omega)).mp g2) (by omega), fun _ => ?_⟩
        rw [hb.2.1, nI_add, nI_1, nI_1]
        refine c_isIn (by omega) (by omega) (fun h30 hbit => ⟨fun g => absurd g (by decide), fun _ => ?_⟩) (fun hbit => ⟨fun _ => ?_, fun g => absurd rfl g⟩)
        · have hm := (g_bits_tb p _).mp hbit
          rcases st with ⟨e1, -⟩ | ⟨-, e2⟩
          · rw [hb.2.1, nI_add]
            exact ih (i + 1) (a + C) (by omega) (by rw [hbb, e1])
          · exact absurd hm e2
        · have hm : ¬ a + C ∈ p := fun hm => by
            have h30 := hcell _ hm
            rw [(g_bits_tb p _).mpr hm] at hbit
            exact absurd (hbit (by omega)) (by decide)
          rcases st with ⟨-, e2⟩ | ⟨e1, -⟩
          · exact absurd e2 hm
          · exact ih (i + 1) (a + 1) (by omega) (by rw [hbb, e1])
    exact loop s 0 (dc dr) (by omega) l0
  · rw [g_stp, if_neg (by omega)] at h
    exact h
end Stp
