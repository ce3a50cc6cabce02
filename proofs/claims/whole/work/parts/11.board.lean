
/-! the class's board -/
def g_numb (kd nu : Nat → Nat) (c : Nat) : Int32 := if kd c < 2 then -9 else nI (nu c)
/-- the kinds of cells when only the first m doors and wells count -/
def g_kdE (m : Nat) (kd nu : Nat → Nat) (c : Nat) : Nat := if 2 ≤ kd c ∧ m ≤ nu c then 0 else kd c
def b_wf (R C n : Nat) (kd co nu dc wc : Nat → Nat) : Prop :=
  R ≤ 6 ∧ C ≤ 5 ∧ n ≤ 3 ∧ ((R = 0 ∧ C = 0 ∧ n = 0) ∨ (2 ≤ R ∧ 2 ≤ C ∧ 1 ≤ n)) ∧ (∀ c, c < R * C → kd c ≤ 3 ∧ co c ≤ 9 ∧ (1 ≤ kd c → co c = 0) ∧ (2 ≤ kd c → nu c < n)) ∧
  (∀ d, d < n → dc d < R * C ∧ kd (dc d) = 2 ∧ nu (dc d) = d ∧ wc d < R * C ∧ kd (wc d) = 3 ∧ nu (wc d) = d) ∧ (∀ c, c < R * C → kd c = 2 → c = dc (nu c)) ∧ (∀ c, c < R * C → kd c = 3 → c = wc (nu c))
def g_stones (kd : Nat → Nat) (N : Nat) : Nat := ((List.range N).filter (fun c => kd c == 1)).length
def b_c (M : q_M) (iS iK iC iN iD iW : Nat) (R C n : Nat) (kd co nu dc wc : Nat → Nat) : Prop :=
  M iS 0 = nI R ∧ M iS 1 = nI C ∧ M iS 2 = nI (R * C) ∧ M iS 3 = nI (g_stones kd (R * C)) ∧ M iS 4 = nI n ∧ (∀ c, c < R * C → M iK c = nI (kd c) ∧ M iC c = nI (co c) ∧ M iN c = g_numb kd nu c) ∧ ∀ d, d < n → M iD d = nI (dc d) ∧ M iW d = nI (wc d)
abbrev b_now (M : q_M) (R C n : Nat) (kd co nu dc wc : Nat → Nat) : Prop := b_c M 11 12 13 14 15 16 R C n kd co nu dc wc
def b_s (s : Nat → Int32) (R C n : Nat) (kd co nu : Nat → Nat) : Prop := s 0 = nI R ∧ s 1 = nI C ∧ s 2 = nI n ∧ ∀ c, c < R * C → s (45 + 3 * c) = nI (kd c) ∧ s (46 + 3 * c) = nI (co c) ∧ s (47 + 3 * c) = g_numb kd nu c
theorem b_RC {R C n : Nat} {kd co nu dc wc : Nat → Nat} (h : b_wf R C n kd co nu dc wc) : R * C ≤ 30 := Nat.mul_le_mul h.1 h.2.1
theorem b_Cpos {R C n : Nat} {kd co nu dc wc : Nat → Nat} (h : b_wf R C n kd co nu dc wc) {c : Nat} (hc : c < R * C) : 2 ≤ R ∧ 2 ≤ C := by
  rcases h.2.2.2.1 with ⟨h1, h2, h3⟩ | ⟨h1, h2, h3⟩
  · subst h1; simp at hc
  · exact ⟨h1, h2⟩
theorem b_now.eq {M M' : q_M} {R C n : Nat} {kd co nu dc wc : Nat → Nat} (h : b_now M R C n kd co nu dc wc) (hk : ∀ k, 11 ≤ k → k ≤ 16 → M' k = M k) : b_now M' R C n kd co nu dc wc := by
  unfold b_now b_c at *
  rw [hk 11 (by omega) (by omega), hk 12 (by omega) (by omega), hk 13 (by omega) (by omega), hk 14 (by omega) (by omega), hk 15 (by omega) (by omega), hk 16 (by omega) (by omega)]
  exact h
theorem c_hasCell {X : Nat × (Nat → Int32)} {d N : Nat} {M : q_M} {a : Int32} {K : Int32 → q_M → Prop} (hM : M 11 2 = nI N) (hN : N < 2 ^ 31) (h1 : ∀ j, j < N → a = nI j → K 1 M) (h2 : (∀ j, j < N → a ≠ nI j) → K 0 M) : q_Ci X d 23 [.ref 11, .int a] M K := by
  refine vc23 ?_
  rw [hM]
  constructor
  · intro g; exact h2 (fun j hj e => by rw [e] at g; exact q_nlt0 (by omega) g)
  · intro g
    obtain ⟨j, hj, rfl⟩ := q_nn g
    rw [q_le hN hj]
    constructor
    · intro g2; exact h2 (fun i hi e => by rw [q_eq hj (by omega)] at e; omega)
    · intro g2; exact h1 j (by omega) rfl
theorem c_hasDoor {X : Nat × (Nat → Int32)} {d N : Nat} {M : q_M} {a : Int32} {K : Int32 → q_M → Prop} (hM : M 11 4 = nI N) (hN : N < 2 ^ 31) (h1 : ∀ j, j < N → a = nI j → K 1 M) (h2 : (∀ j, j < N → a ≠ nI j) → K 0 M) : q_Ci X d 24 [.ref 11, .int a] M K := by
  refine vc24 ?_
  rw [hM]
  constructor
  · intro g; exact h2 (fun j hj e => by rw [e] at g; exact q_nlt0 (by omega) g)
  · intro g
    obtain ⟨j, hj, rfl⟩ := q_nn g
    rw [q_le hN hj]
    constructor
    · intro g2; exact h2 (fun i hi e => by rw [q_eq hj (by omega)] at e; omega)
    · intro g2; exact h1 j (by omega) rfl
section Board
variable {X : Nat × (Nat → Int32)} {R C n : Nat} {kd co nu dc wc : Nat → Nat} (hw : b_wf R C n kd co nu dc wc)
theorem c_cellOfDoor (hw : b_wf R C n kd co nu dc wc) {d t : Nat} {M : q_M} {K : Int32 → q_M → Prop} (hd : 0 < d) (hb : b_now M R C n kd co nu dc wc) (ht : t < n) (h : K (nI (dc t)) M) : q_Ci X d 25 [.ref 11, .int (nI t)] M K := by
  refine vc25 hd ?_
  have hn := hw.2.2.1
  refine c_hasDoor hb.2.2.2.2.1 (by omega) (fun j hj e => ?_) (fun g => absurd rfl (g t ht))
  refine ⟨fun g => absurd g (by decide), fun _ => ⟨q_vi (by omega) (by decide), ?_⟩⟩
  rw [q_cn (by omega), (hb.2.2.2.2.2.2 t ht).1]
  exact h
theorem c_cellOfWell (hw : b_wf R C n kd co nu dc wc) {d t : Nat} {M : q_M} {K : Int32 → q_M → Prop} (hd : 0 < d) (hb : b_now M R C n kd co nu dc wc) (ht : t < n) (h : K (nI (wc t)) M) : q_Ci X d 26 [.ref 11, .int (nI t)] M K := by
  refine vc26 hd ?_
  have hn := hw.2.2.1
  refine c_hasDoor hb.2.2.2.2.1 (by omega) (fun j hj e => ?_) (fun g => absurd rfl (g t ht))
  refine ⟨fun g => absurd g (by decide), fun _ => ⟨q_vi (by omega) (by decide), ?_⟩⟩
  rw [q_cn (by omega), (hb.2.2.2.2.2.2 t ht).2]
  exact h
def g_oi : Option Nat → Int32
  | none => -1
  | some t => nI t
theorem c_onward (hw : b_wf R C n kd co nu dc wc) {d c st : Nat} {M : q_M} {K : Int32 → q_M → Prop} (hd : 0 < d) (hb : b_now M R C n kd co nu dc wc) (hc : c < R * C) (hst : st < 2) (h : K (g_oi (g_nx R C kd c st)) M) : q_Ci X d 27 [.ref 11, .int (nI c), .int (nI st)] M K := by
  have hRC := b_RC hw
  obtain ⟨hR2, hC2⟩ := b_Cpos hw hc
  have hC5 := hw.2.1
  obtain ⟨hb0, hb1, hb2, hb3, hb4, hbc, hbd⟩ := hb
  refine vc27 hd ?_
  refine c_hasCell hb2 (by omega) (fun j hj e => ?_) (fun g => absurd rfl (g c hc))
  refine ⟨fun g => absurd g (by decide), fun _ => ⟨fun _ => ?_, fun g => absurd ?_ g⟩⟩
  · rw [hb1, nI_add, nI_1]
    refine ⟨fun g => ?_, fun g => ?_⟩
    · have h0 : st = 0 := by
        rcases (show st = 0 ∨ st = 1 by omega) with h0 | h0
        · exact h0
        · subst h0; exact absurd rfl g
      subst h0
      refine c_hasCell hb2 (by omega) (fun t ht e => ?_) (fun g2 => ?_)
      · rw [q_eq (by omega) (by omega)] at e
        subst e
        refine ⟨fun g => absurd g (by decide), fun _ => ⟨q_vi (by omega) (by decide), ?_⟩⟩
        rw [q_cn (by omega), (hbc _ ht).1]
        have hk3 := (hw.2.2.2.2.1 _ ht).1
        refine ⟨fun g2 => ?_, fun g2 => ?_⟩
        · have e1 : kd (c + C) = 1 := (q_eq (b := 1) (by omega) (by omega)).mp g2
          have e2 : g_nx R C kd c 0 = none := by unfold g_nx; rw [if_pos rfl, if_neg (fun q => q.2 e1)]
          rw [e2] at h; exact h
        · have e1 : kd (c + C) ≠ 1 := fun q => g2 (by rw [q]; rfl)
          have e2 : g_nx R C kd c 0 = some (c + C) := by unfold g_nx; rw [if_pos rfl, if_pos ⟨ht, e1⟩]
          rw [e2] at h; exact h
      · refine ⟨fun _ => ?_, fun g => absurd rfl g⟩
        have e2 : g_nx R C kd c 0 = none := by unfold g_nx; rw [if_pos rfl, if_neg (fun q => g2 _ q.1 rfl)]
        rw [e2] at h; exact h
    · have h1 : st = 1 := by
        exact (q_eq (b := 1) (by omega) (by omega)).mp g
      subst h1
      refine ⟨fun q => absurd ((q_eq (b := 0) (by omega) (by omega)).mp q) (by omega), ?_⟩
      rw [pk_rem (by omega) (by omega) (by omega), show nI C - 1 = nI (C - 1) from pk_sub (a := C) (b := 1) (by omega), q_eq (Nat.lt_of_lt_of_le (Nat.mod_lt _ (by omega)) (by omega)) (by omega)]
      have hml := Nat.mod_lt c (show 0 < C by omega)
      refine ⟨fun g3 => ?_, fun g3 => ?_⟩
      · have hr : c % C + 1 < C := by omega
        obtain ⟨ht, -, -⟩ := g_right (by omega) hc hr
        refine c_hasCell hb2 (by omega) (fun t ht e => ?_) (fun g2 => absurd rfl (g2 _ ht))
        rw [q_eq (by omega) (by omega)] at e
        subst e
        refine ⟨fun g => absurd g (by decide), fun _ => ⟨q_vi (by omega) (by decide), ?_⟩⟩
        rw [q_cn (by omega), (hbc _ ht).1]
        have hk3 := (hw.2.2.2.2.1 _ ht).1
        refine ⟨fun g2 => ?_, fun g2 => ?_⟩
        · have e1 : kd (c + 1) = 1 := (q_eq (b := 1) (by omega) (by omega)).mp g2
          have e2 : g_nx R C kd c 1 = none := by unfold g_nx; rw [if_neg (by decide), if_neg (fun q => q.2 e1)]
          rw [e2] at h; exact h
        · have e1 : kd (c + 1) ≠ 1 := fun q => g2 (by rw [q]; rfl)
          have e2 : g_nx R C kd c 1 = some (c + 1) := by unfold g_nx; rw [if_neg (by decide), if_pos ⟨hr, e1⟩]
          rw [e2] at h; exact h
      · have e2 : g_nx R C kd c 1 = none := by unfold g_nx; rw [if_neg (by decide), if_neg (fun q => by omega)]
        rw [e2] at h; exact h
  · rw [hb1]; exact (q_le (a := 1) (by omega) (by omega)).mpr (by omega)
end Board
