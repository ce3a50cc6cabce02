/-! the reference reads a slope -/
abbrev p_mk (f : Nat → Option Nat) : Nat := p_m3 (f 0).isSome (f 1).isSome (f 2).isSome
theorem p_m3_tb : ∀ a b c : Bool, ∀ n, n < 3 → (p_m3 a b c).testBit n = p_f3 a b c n := by decide
theorem p_m3_lt : ∀ a b c : Bool, p_m3 a b c < 8 := by decide
theorem p_m3_up : ∀ a b c : Bool, p_m3 a b c ||| 2 ^ 0 = p_m3 true b c ∧ p_m3 a b c ||| 2 ^ 1 = p_m3 a true c ∧ p_m3 a b c ||| 2 ^ 2 = p_m3 a b true := by decide
theorem p_mk_tb (f : Nat → Option Nat) {n : Nat} (hn : n < 3) : (p_mk f).testBit n = (f n).isSome := by
  unfold p_mk
  rw [p_m3_tb _ _ _ n hn]
  rcases (show n = 0 ∨ n = 1 ∨ n = 2 by omega) with e | e | e
  · subst e; rfl
  · subst e; rfl
  · subst e; rfl
theorem p_mk_up (f : Nat → Option Nat) {n : Nat} (hn : n < 3) (t : Nat) : p_mk f ||| 2 ^ n = p_mk (p_up f n (some t)) := by
  unfold p_mk
  obtain ⟨h0, h1, h2⟩ := p_m3_up (f 0).isSome (f 1).isSome (f 2).isSome
  rcases (show n = 0 ∨ n = 1 ∨ n = 2 by omega) with e | e | e
  · subst e; exact h0
  · subst e; exact h1
  · subst e; exact h2
theorem l_treeR {c : Nat} (hc : c < 256) {P0 Pdot Pdig Pst Pd Pw : Prop} (h0 : c ≠ 46 → c ≠ 35 → ¬ (49 ≤ c ∧ c ≤ 57) → ¬ (97 ≤ c ∧ c ≤ 99) → ¬ (120 ≤ c ∧ c ≤ 122) → P0) (h1 : c = 46 → Pdot) (h2 : 49 ≤ c ∧ c ≤ 57 → Pdig) (h3 : c = 35 → Pst) (h4 : 97 ≤ c ∧ c ≤ 99 → Pd) (h5 : 120 ≤ c ∧ c ≤ 122 → Pw) :
    ((¬ nI c = 46) → (((¬ nI c = 35) → (((nI c < 49) → (((nI c < 97) → (((nI c < 120) → P0) ∧ ((¬ nI c < 120) → (((nI c ≤ 122) → Pw) ∧ ((¬ nI c ≤ 122) → P0))))) ∧ ((¬ nI c < 97) → (((99 < nI c) → (((nI c < 120) → P0) ∧ ((¬ nI c < 120) → (((nI c ≤ 122) → Pw) ∧ ((¬ nI c ≤ 122) → P0))))) ∧ ((¬ 99 < nI c) → Pd))))) ∧ ((¬ nI c < 49) → (((57 < nI c) → (((nI c < 97) → (((nI c < 120) → P0) ∧ ((¬ nI c < 120) → (((nI c ≤ 122) → Pw) ∧ ((¬ nI c ≤ 122) → P0))))) ∧ ((¬ nI c < 97) → (((99 < nI c) → (((nI c < 120) → P0) ∧ ((¬ nI c < 120) → (((nI c ≤ 122) → Pw) ∧ ((¬ nI c ≤ 122) → P0))))) ∧ ((¬ 99 < nI c) → Pd))))) ∧ ((¬ 57 < nI c) → Pdig))))) ∧ ((nI c = 35) → Pst))) ∧ ((nI c = 46) → Pdot) := by
  have l49 : nI c < nI 49 ↔ c < 49 := q_lt (by omega) (by decide)
  have l97 : nI c < nI 97 ↔ c < 97 := q_lt (by omega) (by decide)
  have l120 : nI c < nI 120 ↔ c < 120 := q_lt (by omega) (by decide)
  have g122 : nI c ≤ nI 122 ↔ c ≤ 122 := q_le (by omega) (by decide)
  have g99 : nI 99 < nI c ↔ 99 < c := q_lt (by decide) (by omega)
  have g57 : nI 57 < nI c ↔ 57 < c := q_lt (by decide) (by omega)
  have e46 : nI c = nI 46 ↔ c = 46 := q_eq (by omega) (by decide)
  have e35 : nI c = nI 35 ↔ c = 35 := q_eq (by omega) (by decide)
  rw [show (46 : Int32) = nI 46 from rfl, show (49 : Int32) = nI 49 from rfl, show (35 : Int32) = nI 35 from rfl, show (97 : Int32) = nI 97 from rfl, show (120 : Int32) = nI 120 from rfl, show (122 : Int32) = nI 122 from rfl, show (99 : Int32) = nI 99 from rfl, show (57 : Int32) = nI 57 from rfl, l49, l97, l120, g122, g99, g57, e46, e35]
  have tw : c ≠ 46 → c ≠ 35 → ¬ (49 ≤ c ∧ c ≤ 57) → ¬ (97 ≤ c ∧ c ≤ 99) → ((c < 120 → P0) ∧ (¬ c < 120 → ((c ≤ 122 → Pw) ∧ (¬ c ≤ 122 → P0)))) := fun a b e f => ⟨fun g => h0 a b e f (by omega), fun g => ⟨fun g2 => h5 (by omega), fun g2 => h0 a b e f (by omega)⟩⟩
  have td : c ≠ 46 → c ≠ 35 → ¬ (49 ≤ c ∧ c ≤ 57) → ((c < 97 → ((c < 120 → P0) ∧ (¬ c < 120 → ((c ≤ 122 → Pw) ∧ (¬ c ≤ 122 → P0))))) ∧ ((¬ c < 97) → ((99 < c → ((c < 120 → P0) ∧ (¬ c < 120 → ((c ≤ 122 → Pw) ∧ (¬ c ≤ 122 → P0))))) ∧ ((¬ 99 < c) → Pd)))) := fun a b e => ⟨fun g => tw a b e (by omega), fun g => ⟨fun g2 => tw a b e (by omega), fun g2 => h4 (by omega)⟩⟩
  exact ⟨fun a => ⟨fun b => ⟨fun g => td a b (by omega), fun g => ⟨fun g2 => td a b (by omega), fun g2 => h2 (by omega)⟩⟩, h3⟩, h1⟩
def r_rd (M : q_M) : p_S → Prop
  | (r, q, x, m, s, kd, co, nu, dA, wA) => (∀ i, i < m → M 101 (45 + 3 * i) = nI (kd i) ∧ M 101 (46 + 3 * i) = nI (co i) ∧ M 101 (47 + 3 * i) = g_numb kd nu i) ∧ M 97 7 = nI (p_mk dA) ∧ M 97 8 = nI (p_mk wA)
def e_rf (M M' : q_M) : Prop := (∀ k, k ≠ 97 → k ≠ 101 → M' k = M k) ∧ ∀ j, j ≠ 7 → j ≠ 8 → M' 97 j = M 97 j
theorem e_rf.rf (M : q_M) : e_rf M M := ⟨fun _ _ _ => rfl, fun _ _ _ => rfl⟩
theorem e_rf.tr {A B D : q_M} (h : e_rf A B) (h2 : e_rf B D) : e_rf A D := ⟨fun k a b => (h2.1 k a b).trans (h.1 k a b), fun j a b => (h2.2 j a b).trans (h.2 j a b)⟩
theorem r_rd_put {M M' : q_M} {r q x m s s2 : Nat} {kd co nu : Nat → Nat} {dA wA dB wB : Nat → Option Nat} {k p v : Nat} (h : r_rd M (r, q, x, m, s, kd, co, nu, dA, wA)) (h1 : ∀ j, j < 45 + 3 * m → M' 101 j = M 101 j) (e0 : M' 101 (45 + 3 * m) = nI k) (e1 : M' 101 (46 + 3 * m) = nI p) (e2 : M' 101 (47 + 3 * m) = if k < 2 then -9 else nI v) (e7 : M' 97 7 = nI (p_mk dB)) (e8 : M' 97 8 = nI (p_mk wB)) : r_rd M' (r, q, x + 1, m + 1, s2, p_up kd m k, p_up co m p, p_up nu m v, dB, wB) := by
  obtain ⟨a1, -, -⟩ := h
  refine ⟨fun i hi => ?_, e7, e8⟩
  by_cases e : i = m
  · subst e
    rw [p_up_s, p_up_s]
    refine ⟨e0, e1, ?_⟩
    unfold g_numb
    rw [p_up_s, p_up_s]
    exact e2
  · obtain ⟨b1, b2, b3⟩ := a1 i (by omega)
    rw [p_up_n e, p_up_n e, h1 _ (by omega), h1 _ (by omega), h1 _ (by omega)]
    refine ⟨b1, b2, ?_⟩
    unfold g_numb
    rw [p_up_n e, p_up_n e]
    exact b3
section RSlope
variable {X : Nat × (Nat → Int32)}
theorem r_tells {d c r q x m s : Nat} {kd co nu : Nat → Nat} {dA wA : Nat → Option Nat} {M : q_M} {K : Int32 → q_M → Prop} (hc : c < 256) (h47 : c ≠ 47) (hx : ¬ x = (if r = 0 then 5 else q)) (hm : m < 30) (hr : r_rd M (r, q, x, m, s, kd, co, nu, dA, wA)) (h1 : ∀ τ M', p_step c (r, q, x, m, s, kd, co, nu, dA, wA) = some τ → e_rf M M' → r_rd M' τ → K 1 M') (h2 : p_step c (r, q, x, m, s, kd, co, nu, dA, wA) = none → ∀ M', e_rf M M' → K 0 M') : q_Ci X d 102 [.ref 97, .int (nI c), .int (nI m)] M K := by
  obtain ⟨s1, s2, s3, s4, s5, s6⟩ := p_cell h47 (m := m) (s := s) (kd := kd) (co := co) (nu := nu) (dA := dA) (wA := wA) hx
  obtain ⟨a1, a2, a3⟩ := id hr
  have lA : p_mk dA < 8 := p_m3_lt (dA 0).isSome (dA 1).isSome (dA 2).isSome
  have lW : p_mk wA < 8 := p_m3_lt (wA 0).isSome (wA 1).isSome (wA 2).isSome
  refine vc102 ?_
  rw [r_ix1, r_ix2, r_ix0, q_cn (show 45 + 3 * m < 2 ^ 31 by omega), q_cn (show 46 + 3 * m < 2 ^ 31 by omega), q_cn (show 47 + 3 * m < 2 ^ 31 by omega)]
  have v0 : vp_in (nI (45 + 3 * m)) 135 := q_vi (by omega) (by decide)
  have v1 : vp_in (nI (46 + 3 * m)) 135 := q_vi (by omega) (by decide)
  have v2 : vp_in (nI (47 + 3 * m)) 135 := q_vi (by omega) (by decide)
  refine ⟨v0, v1, v2, ?_⟩
  have base : e_rf M (q_set (q_set (q_set M 101 (45 + 3 * m) 0) 101 (46 + 3 * m) 0) 101 (47 + 3 * m) (-9)) := ⟨fun k a b => by rw [q_set_n b, q_set_n b, q_set_n b], fun j a b => by rw [q_set_n (by decide), q_set_n (by decide), q_set_n (by decide)]⟩
  have bset : ∀ (M5 : q_M) (j : Nat) (v : Int32), e_rf M M5 → e_rf M (q_set M5 101 j v) := fun M5 j v h => ⟨fun k a b => by rw [q_set_n b]; exact h.1 k a b, fun j a b => by rw [q_set_n (by decide)]; exact h.2 j a b⟩
  have bset7 : ∀ (M5 : q_M) (v : Int32), e_rf M M5 → e_rf M (q_set M5 97 7 v) := fun M5 v h => ⟨fun k a b => by rw [q_set_n a]; exact h.1 k a b, fun j a b => by rw [q_set_ap, if_neg (by omega)]; exact h.2 j a b⟩
  have bset8 : ∀ (M5 : q_M) (v : Int32), e_rf M M5 → e_rf M (q_set M5 97 8 v) := fun M5 v h => ⟨fun k a b => by rw [q_set_n a]; exact h.1 k a b, fun j a b => by rw [q_set_ap, if_neg (by omega)]; exact h.2 j a b⟩
  have n1 : ¬ 45 + 3 * m = 46 + 3 * m := by omega
  have n2 : ¬ 45 + 3 * m = 47 + 3 * m := by omega
  have n3 : ¬ 46 + 3 * m = 47 + 3 * m := by omega
  have n4 : ¬ 46 + 3 * m = 45 + 3 * m := by omega
  have n5 : ¬ 47 + 3 * m = 45 + 3 * m := by omega
  have n6 : ¬ 47 + 3 * m = 46 + 3 * m := by omega
  refine l_treeR hc (fun b1 b2 b3 b4 b5 => h2 (s6 b1 b2 b3 b4 b5) _ base) (fun e => ?_) (fun e => ⟨v1, ?_⟩) (fun e => ⟨v0, ?_⟩) (fun e => ?_) (fun e => ?_)
  · exact h1 _ _ (s1 e) base (r_rd_put hr (fun j hj => by rw [q_set_ap, if_neg (by omega), q_set_ap, if_neg (by omega), q_set_ap, if_neg (by omega)]) (by simp [q_set_ap, n2, n1, nI_0]) (by simp [q_set_ap, n3, nI_0]) (by simp [q_set_ap]) (by rw [q_set_n (by decide), q_set_n (by decide), q_set_n (by decide)]; exact a2) (by rw [q_set_n (by decide), q_set_n (by decide), q_set_n (by decide)]; exact a3))
  · rw [show nI c - 48 = nI (c - 48) from pk_sub (a := c) (b := 48) (by omega)]
    exact h1 _ _ (s3 e) (bset _ _ _ base) (r_rd_put hr (fun j hj => by rw [q_set_ap, if_neg (by omega), q_set_ap, if_neg (by omega), q_set_ap, if_neg (by omega), q_set_ap, if_neg (by omega)]) (by simp [q_set_ap, n2, n1, nI_0]) (by simp [q_set_ap]) (by simp [q_set_ap, n6]) (by rw [q_set_n (by decide), q_set_n (by decide), q_set_n (by decide), q_set_n (by decide)]; exact a2) (by rw [q_set_n (by decide), q_set_n (by decide), q_set_n (by decide), q_set_n (by decide)]; exact a3))
  · exact h1 _ _ (s2 e) (bset _ _ _ base) (r_rd_put (k := 1) hr (fun j hj => by rw [q_set_ap, if_neg (by omega), q_set_ap, if_neg (by omega), q_set_ap, if_neg (by omega), q_set_ap, if_neg (by omega)]) (by rw [q_set_ap, if_pos ⟨rfl, rfl⟩]; rfl) (by simp [q_set_ap, n4, n3, nI_0]) (by simp [q_set_ap, n5]) (by rw [q_set_n (by decide), q_set_n (by decide), q_set_n (by decide), q_set_n (by decide)]; exact a2) (by rw [q_set_n (by decide), q_set_n (by decide), q_set_n (by decide), q_set_n (by decide)]; exact a3))
  · have hst := s4 e
    have hv3 : c - 97 < 3 := by omega
    generalize hcv : c - 97 = v at hst hv3
    rw [show nI c - 97 = nI v from by rw [← hcv]; exact pk_sub (a := c) (b := 97) (by omega), a2, n_bit1 (by omega) (by omega), p_mk_tb dA hv3, n_sh v (by omega)]
    have e7 : (q_set (q_set (q_set (q_set (q_set M 101 (45 + 3 * m) 0) 101 (46 + 3 * m) 0) 101 (47 + 3 * m) (-9)) 101 (45 + 3 * m) 2) 101 (47 + 3 * m) (nI v)) 97 7 = nI (p_mk dA) := by
      rw [q_set_n (by decide), q_set_n (by decide), q_set_n (by decide), q_set_n (by decide), q_set_n (by decide)]; exact a2
    cases hdA : dA v with
    | none =>
      rw [hdA, if_neg (show ¬ (none : Option Nat).isSome = true by decide)] at hst
      refine ⟨fun _ => ⟨v0, v2, ?_⟩, fun g => absurd g (by decide)⟩
      rw [n_or, p_mk_up dA hv3 m]
      refine h1 _ _ hst (bset7 _ _ (bset _ _ _ (bset _ _ _ base))) (r_rd_put (k := 2) (p := 0) hr (fun j hj => ?_) ?_ ?_ ?_ ?_ ?_)
      · rw [q_set_n (by decide), q_set_ap, if_neg (by omega), q_set_ap, if_neg (by omega), q_set_ap, if_neg (by omega), q_set_ap, if_neg (by omega), q_set_ap, if_neg (by omega)]
      · rw [q_set_n (by decide), q_set_ap, if_neg (by omega), q_set_ap, if_pos ⟨rfl, rfl⟩]; rfl
      · rw [q_set_n (by decide), q_set_ap, if_neg (by omega), q_set_ap, if_neg (by omega), q_set_ap, if_neg (by omega), q_set_ap, if_pos ⟨rfl, rfl⟩]; rfl
      · rw [q_set_n (by decide), q_set_ap, if_pos ⟨rfl, rfl⟩, if_neg (by decide)]
      · rw [q_set_ap, if_pos ⟨rfl, rfl⟩]
      · rw [q_set_ap, if_neg (by decide), q_set_n (by decide), q_set_n (by decide), q_set_n (by decide), q_set_n (by decide), q_set_n (by decide)]; exact a3
    | some t =>
      rw [hdA, if_pos (show (some t).isSome = true from rfl)] at hst
      exact ⟨fun g => absurd rfl g, fun _ => h2 hst _ base⟩
  · have hst := s5 e
    have hv3 : c - 120 < 3 := by omega
    generalize hcv : c - 120 = v at hst hv3
    rw [show nI c - 120 = nI v from by rw [← hcv]; exact pk_sub (a := c) (b := 120) (by omega), a3, n_bit1 (by omega) (by omega), p_mk_tb wA hv3, n_sh v (by omega)]
    cases hdA : wA v with
    | none =>
      rw [hdA, if_neg (show ¬ (none : Option Nat).isSome = true by decide)] at hst
      refine ⟨fun _ => ⟨v0, v2, ?_⟩, fun g => absurd g (by decide)⟩
      rw [n_or, p_mk_up wA hv3 m]
      refine h1 _ _ hst (bset8 _ _ (bset _ _ _ (bset _ _ _ base))) (r_rd_put (k := 3) (p := 0) hr (fun j hj => ?_) ?_ ?_ ?_ ?_ ?_)
      · rw [q_set_n (by decide), q_set_ap, if_neg (by omega), q_set_ap, if_neg (by omega), q_set_ap, if_neg (by omega), q_set_ap, if_neg (by omega), q_set_ap, if_neg (by omega)]
      · rw [q_set_n (by decide), q_set_ap, if_neg (by omega), q_set_ap, if_pos ⟨rfl, rfl⟩]; rfl
      · rw [q_set_n (by decide), q_set_ap, if_neg (by omega), q_set_ap, if_neg (by omega), q_set_ap, if_neg (by omega), q_set_ap, if_pos ⟨rfl, rfl⟩]; rfl
      · rw [q_set_n (by decide), q_set_ap, if_pos ⟨rfl, rfl⟩, if_neg (by decide)]
      · rw [q_set_ap, if_neg (by decide), q_set_n (by decide), q_set_n (by decide), q_set_n (by decide), q_set_n (by decide), q_set_n (by decide)]; exact a2
      · rw [q_set_ap, if_pos ⟨rfl, rfl⟩]
    | some t =>
      rw [hdA, if_pos (show (some t).isSome = true from rfl)] at hst
      exact ⟨fun g => absurd rfl g, fun _ => h2 hst _ base⟩
theorem p_nd_mk (dA wA : Nat → Option Nat) : p_nd dA wA = (if p_mk dA = p_mk wA then (if p_mk dA = 1 then some 1 else if p_mk dA = 3 then some 2 else if p_mk dA = 7 then some 3 else none) else none) := by
  unfold p_nd p_mk
  rw [p_pr6]
  exact p_prT _ _ _ _ _ _
/-- what the reference holds of a slope that was read -/
def r_new (M M' : q_M) (R C n : Nat) (kd co nu : Nat → Nat) : Prop := (∀ k, k ≠ 97 → k ≠ 99 → k ≠ 101 → M' k = M k) ∧ (∀ j, j ≠ 7 → j ≠ 8 → M' 97 j = M 97 j) ∧ b_s (M' 99) R C n kd co nu ∧ M' 99 3 = M 99 3 ∧ M' 99 7 = 0 ∧ ∀ e, e < 3 → M' 99 (4 + e) = nI e ∧ M' 99 (12 + e) = 0
theorem r_reads {d L : Nat} {tp : Nat → Nat} {M : q_M} {K : Int32 → q_M → Prop} (hd : 2 ≤ d) (hL : L ≤ 48) (hM : M 97 6 = nI L) (htp : ∀ j, j < L → M 102 j = nI (tp j) ∧ tp j < 256) (h1 : ∀ e, p_res tp L = .inl e → ∀ M', e_rf M M' → K e M') (h2 : ∀ r q x m s kd co nu dA wA n, p_res tp L = .inr ((r, q, x, m, s, kd, co, nu, dA, wA), n) → ∀ M', r_new M M' (r + 1) q n kd co nu → K (nI ((r + 1) * q)) M') : q_Ci X d 103 [.ref 97] M K := by
  refine vc103 ?_
  have f0 : e_rf M (q_set (q_set M 97 7 0) 97 8 0) := ⟨fun k a b => by rw [q_set_n a, q_set_n a], fun j a b => by rw [q_set_ap, if_neg (by omega), q_set_ap, if_neg (by omega)]⟩
  have r0 : r_rd (q_set (q_set M 97 7 0) 97 8 0) p_0 := ⟨(fun i hi => absurd hi (by omega)), by simp [q_set_ap]; rfl, by simp [q_set_ap]; rfl⟩
  -- the slope becomes
  have build : ∀ (r q x m s n : Nat) (kd co nu : Nat → Nat) (dA wA : Nat → Option Nat) (M4 : q_M), p_ok (r, q, x, m, s, kd, co, nu, dA, wA) → ¬ (r = 0 ∨ x ≠ q) → p_nd dA wA = some n → p_res tp L = .inr ((r, q, x, m, s, kd, co, nu, dA, wA), n) → e_rf M M4 → r_rd M4 (r, q, x, m, s, kd, co, nu, dA, wA) → q_Ex X d 103 213 [some (.ref 97), some (.int (nI (r + 1))), some (.int (nI q)), none, some (.int (nI m)), some (.int 45), none] [] M4 (q_ri K) := by
    intro r q x m s n kd co nu dA wA M4 ok hc hn hres f4 rd
    obtain ⟨b1, b2, -, -⟩ := p_board ok hc hn
    have hm := (p_ok_m ok).1
    obtain ⟨a1, a2, a3⟩ := id rd
    have hmk : p_mk dA = 1 ∧ n = 1 ∨ p_mk dA = 3 ∧ n = 2 ∨ p_mk dA = 7 ∧ n = 3 := by
      rw [p_nd_mk] at hn
      by_cases q1 : p_mk dA = p_mk wA
      · rw [if_pos q1] at hn
        by_cases q2 : p_mk dA = 1
        · rw [if_pos q2] at hn; cases hn; exact Or.inl ⟨q2, rfl⟩
        · rw [if_neg q2] at hn
          by_cases q3 : p_mk dA = 3
          · rw [if_pos q3] at hn; cases hn; exact Or.inr (Or.inl ⟨q3, rfl⟩)
          · rw [if_neg q3] at hn
            by_cases q4 : p_mk dA = 7
            · rw [if_pos q4] at hn; cases hn; exact Or.inr (Or.inr ⟨q4, rfl⟩)
            · rw [if_neg q4] at hn; cases hn
      · rw [if_neg q1] at hn; cases hn
    -- the end: doors' wells, lengths
    have fin : ∀ (M6 : q_M), (∀ k, k ≠ 99 → M6 k = M4 k) → (∀ j, j < 3 * m → M6 99 (45 + j) = M4 101 (45 + j)) → M6 99 0 = nI (r + 1) → M6 99 1 = nI q → M6 99 2 = nI n → M6 99 3 = M4 99 3 → M6 99 7 = 0 → q_Ex X d 103 301 [some (.ref 97), none, none, none, some (.int (nI m)), some (.int 0), none] [] M6 (q_ri K) := by
      intro M6 g1 g2 g3 g4 g5 g6 g7
      have loop : ∀ (j i : Nat) (M7 : q_M), i + j = 3 → (∀ k, k ≠ 99 → M7 k = M4 k) → (∀ j, (j < 4 ∨ j = 7 ∨ 45 ≤ j) → M7 99 j = M6 99 j) → (∀ e, e < i → M7 99 (4 + e) = nI e ∧ M7 99 (12 + e) = 0) → q_Ex X d 103 301 [some (.ref 97), none, none, none, some (.int (nI m)), some (.int (nI i)), none] [] M7 (q_ri K) := by
        intro j
        induction j with
        | zero =>
          intro i M7 hi k1 k2 k3
          refine vc103_p301 ⟨fun _ => ?_, fun g => absurd ((q_le (a := 3) (by decide) (by omega)).mpr (by omega)) g⟩
          rw [b2]
          refine h2 r q x m s kd co nu dA wA n hres M7 ⟨fun k p1 p2 p3 => by rw [k1 k p2]; exact f4.1 k p1 p3, fun j p1 p2 => by rw [k1 97 (by decide)]; exact f4.2 j p1 p2, ⟨?_, ?_, ?_, fun c hc2 => ⟨?_, ?_, ?_⟩⟩, ?_, ?_, fun e he => k3 e (by omega)⟩
          · rw [k2 0 (by omega)]; exact g3
          · rw [k2 1 (by omega)]; exact g4
          · rw [k2 2 (by omega)]; exact g5
          · rw [k2 (45 + 3 * c) (by omega), g2 (3 * c) (by omega)]; exact (a1 c (by omega)).1
          · have := g2 (3 * c + 1) (by omega)
            rw [show 45 + (3 * c + 1) = 46 + 3 * c by omega] at this
            rw [k2 (46 + 3 * c) (by omega), this]; exact (a1 c (by omega)).2.1
          · have := g2 (3 * c + 2) (by omega)
            rw [show 45 + (3 * c + 2) = 47 + 3 * c by omega] at this
            rw [k2 (47 + 3 * c) (by omega), this]; exact (a1 c (by omega)).2.2
          · rw [k2 3 (by omega), g6]; exact congrFun (f4.1 99 (by decide) (by decide)) 3
          · rw [k2 7 (by omega)]; exact g7
        | succ j ih =>
          intro i M7 hi k1 k2 k3
          refine vc103_p301 ⟨fun g => absurd ((q_le (a := 3) (by decide) (by omega)).mp g) (by omega), fun _ => ?_⟩
          rw [show (4 : Int32) + nI i = nI (4 + i) from nI_add 4 i, show (12 : Int32) + nI i = nI (12 + i) from nI_add 12 i, q_cn (show 4 + i < 2 ^ 31 by omega), q_cn (show 12 + i < 2 ^ 31 by omega), nI_1]
          refine ⟨q_vi (by omega) (by decide), q_vi (by omega) (by decide), ih (i + 1) _ (by omega) (fun k hk => by rw [q_set_n hk, q_set_n hk]; exact k1 k hk) (fun j hj => by rw [q_set_ap, if_neg (by omega), q_set_ap, if_neg (by omega)]; exact k2 j hj) (fun e he => ?_)⟩
          by_cases q1 : e = i
          · subst q1
            exact ⟨by rw [q_set_ap, if_neg (by omega), q_set_ap, if_pos ⟨rfl, rfl⟩], by rw [q_set_ap, if_pos ⟨rfl, rfl⟩]⟩
          · rw [q_set_ap, if_neg (by omega), q_set_ap, if_neg (by omega), q_set_ap, if_neg (by omega), q_set_ap, if_neg (by omega)]
            exact k3 e (by omega)
      exact loop 3 0 M6 (by decide) g1 (fun _ _ => rfl) (fun e he => by omega)
    have copy : ∀ (j i : Nat) (M5 : q_M), i + j = 3 * m → (∀ k, k ≠ 99 → M5 k = M4 k) → (∀ j, j < i → M5 99 (45 + j) = M4 101 (45 + j)) → M5 99 3 = M4 99 3 → q_Ex X d 103 213 [some (.ref 97), some (.int (nI (r + 1))), some (.int (nI q)), none, some (.int (nI m)), some (.int (nI (45 + i))), none] [] M5 (q_ri K) := by
      intro j
      induction j with
      | zero =>
        intro i M5 hi g1 g2 g3
        have ei : 45 + i = 45 + 3 * m := by omega
        have e7 : M5 97 7 = nI (p_mk dA) := by rw [g1 97 (by decide)]; exact a2
        have step : ∀ v : Int32, v = nI n → q_Ex X d 103 301 [some (.ref 97), none, none, none, some (.int (nI m)), some (.int 0), none] [] (q_set (q_set (q_set (q_set M5 99 0 (nI (r + 1))) 99 1 (nI q)) 99 2 v) 99 7 0) (q_ri K) := by
          intro v hv
          refine fin _ (fun k hk => by rw [q_set_n hk, q_set_n hk, q_set_n hk, q_set_n hk]; exact g1 k hk) (fun j hj => ?_) (by simp [q_set_ap]) (by simp [q_set_ap]) (by simp [q_set_ap, hv]) (by simp [q_set_ap, g3]) (by simp [q_set_ap])
          rw [q_set_ap, if_neg (by omega), q_set_ap, if_neg (by omega), q_set_ap, if_neg (by omega), q_set_ap, if_neg (by omega)]
          exact g2 j (by omega)
        refine vc103_p213 ⟨fun _ => ?_, fun g => absurd ?_ g⟩
        · rw [e7]
          rcases hmk with ⟨k1, k2⟩ | ⟨k1, k2⟩ | ⟨k1, k2⟩
          · rw [k1]
            exact ⟨fun g => absurd rfl g, fun _ => step 1 (by rw [k2]; rfl)⟩
          · rw [k1]
            exact ⟨fun _ => ⟨fun g => absurd rfl g, fun _ => step 2 (by rw [k2]; rfl)⟩, fun g => absurd g (by decide)⟩
          · rw [k1]
            exact ⟨fun _ => ⟨fun _ => step 3 (by rw [k2]; rfl), fun g => absurd g (by decide)⟩, fun g => absurd g (by decide)⟩
        · rw [r_ix0, q_le (by omega) (by omega)]; omega
      | succ j ih =>
        intro i M5 hi g1 g2 g3
        refine vc103_p213 ⟨fun g => ?_, fun _ => ?_⟩
        · rw [r_ix0, q_le (by omega) (by omega)] at g; omega
        · have hv : vp_in (nI (45 + i)) 135 := q_vi (by omega) (by decide)
          rw [q_cn (by omega), nI_1]
          refine ⟨hv, hv, ih (i + 1) _ (by omega) (fun k hk => by rw [q_set_n hk]; exact g1 k hk) (fun t ht => ?_) (by rw [q_set_ap, if_neg (by omega)]; exact g3)⟩
          rw [q_set_ap]
          by_cases q1 : t = i
          · subst q1; rw [if_pos ⟨rfl, rfl⟩, g1 101 (by decide)]
          · rw [if_neg (by omega)]; exact g2 t (by omega)
    exact copy (3 * m) 0 M4 (by omega) (fun _ _ => rfl) (fun j hj => by omega) rfl
  have loop : ∀ (j i : Nat) (σ : p_S) (M4 : q_M), i + j = L → p_ok σ → r_rd M4 σ → e_rf M M4 → p_run tp L 0 p_0 = p_run tp j i σ → q_Ex X d 103 22 [some (.ref 97), some (.int (nI (σ.1 + 1))), some (.int (nI σ.2.1)), some (.int (nI σ.2.2.1)), some (.int (nI σ.2.2.2.1)), some (.int (nI i)), none] [] M4 (q_ri K) := by
    intro j
    induction j with
    | zero =>
      intro i σ M4 hi ok rd f4 hp
      obtain ⟨r, q, x, m, s, kd, co, nu, dA, wA⟩ := σ
      show q_Ex X d 103 22 [some (.ref 97), some (.int (nI (r + 1))), some (.int (nI q)), some (.int (nI x)), some (.int (nI m)), some (.int (nI i)), none] [] M4 (q_ri K)
      obtain ⟨a1, a2, a3⟩ := id rd
      obtain ⟨o1, o2, o3, o4, o5, o6, o7, o8, o9, o10⟩ := id ok
      have hx5 : x ≤ 5 := by split at o5 <;> omega
      have e6 : M4 97 6 = nI L := by rw [f4.2 6 (by decide) (by decide)]; exact hM
      have hp2 : p_run tp L 0 p_0 = .inr (r, q, x, m, s, kd, co, nu, dA, wA) := hp
      have hres : p_res tp L = p_end L (r, q, x, m, s, kd, co, nu, dA, wA) := by unfold p_res; rw [hp2]
      rw [p_end_e] at hres
      have lA : p_mk dA < 8 := p_m3_lt (dA 0).isSome (dA 1).isSome (dA 2).isSome
      have lW : p_mk wA < 8 := p_m3_lt (wA 0).isSome (wA 1).isSome (wA 2).isSome
      refine vc103_p22 (by omega) ⟨fun _ => ?_, fun g => absurd (by rw [e6, q_le (by omega) (by omega)]; omega) g⟩
      rw [e6, show (2 : Int32) = nI 2 from rfl, q_lt (a := r + 1) (by omega) (by decide), q_le (a := q) (by omega) (by omega)]
      refine ⟨fun g => ?_, fun g => ⟨fun g2 => ?_, fun g2 => ?_⟩⟩
      · rw [if_pos (Or.inl (by omega))] at hres
        exact h1 _ hres M4 f4
      · have hc : ¬ (r = 0 ∨ x ≠ q) := by
          rw [if_neg (by omega)] at o5
          omega
        rw [if_neg hc] at hres
        have hnd := p_nd_mk dA wA
        rw [a2, a3, q_eq (a := p_mk dA) (by omega) (by omega), show (1 : Int32) = nI 1 from rfl, show (3 : Int32) = nI 3 from rfl, show (7 : Int32) = nI 7 from rfl, q_eq (a := p_mk dA) (b := 1) (by omega) (by decide), q_eq (a := p_mk dA) (b := 3) (by omega) (by decide), q_eq (a := p_mk dA) (b := 7) (by omega) (by decide)]
        refine ⟨fun q1 => ?_, fun q1 => ⟨fun q2 => ?_, fun q2 => ⟨fun q3 => ?_, fun q3 => ⟨fun q4 => ?_, fun q4 => ?_⟩⟩⟩⟩
        · rw [if_neg q1] at hnd; rw [hnd] at hres
          exact h1 _ hres M4 f4
        · rw [if_pos q1, if_pos q2] at hnd; rw [hnd] at hres
          exact build r q x m s 1 kd co nu dA wA M4 ok hc hnd hres f4 rd
        · rw [if_pos q1, if_neg q2, if_pos q3] at hnd; rw [hnd] at hres
          exact build r q x m s 2 kd co nu dA wA M4 ok hc hnd hres f4 rd
        · rw [if_pos q1, if_neg q2, if_neg q3, if_pos q4] at hnd; rw [hnd] at hres
          exact build r q x m s 3 kd co nu dA wA M4 ok hc hnd hres f4 rd
        · rw [if_pos q1, if_neg q2, if_neg q3, if_neg q4] at hnd; rw [hnd] at hres
          exact h1 _ hres M4 f4
      · rw [if_pos (Or.inr (by omega))] at hres
        exact h1 _ hres M4 f4
    | succ j ih =>
      intro i σ M4 hi ok rd f4 hp
      obtain ⟨r, q, x, m, s, kd, co, nu, dA, wA⟩ := σ
      show q_Ex X d 103 22 [some (.ref 97), some (.int (nI (r + 1))), some (.int (nI q)), some (.int (nI x)), some (.int (nI m)), some (.int (nI i)), none] [] M4 (q_ri K)
      obtain ⟨o1, o2, o3, o4, o5, o6, o7, o8, o9, o10⟩ := id ok
      have hx5 : x ≤ 5 := by split at o5 <;> omega
      obtain ⟨m1, m2⟩ := p_ok_m ok
      obtain ⟨t1, t2⟩ := htp i (by omega)
      have e6 : M4 97 6 = nI L := by rw [f4.2 6 (by decide) (by decide)]; exact hM
      have mi : M4 102 i = nI (tp i) := by rw [f4.1 102 (by decide) (by decide)]; exact t1
      have hv : vp_in (nI i) 48 := q_vi (by omega) (by decide)
      rw [p_run_s] at hp
      have ft : p_step (tp i) (r, q, x, m, s, kd, co, nu, dA, wA) = none → p_res tp L = .inl (-1000 - nI i) := fun e => by
        rw [e] at hp
        unfold p_res
        rw [hp]
      refine vc103_p22 (by omega) ⟨fun g => ?_, fun _ => ⟨hv, ?_⟩⟩
      · rw [e6, q_le (by omega) (by omega)] at g; omega
      rw [q_cn (by omega), mi, show (47 : Int32) = nI 47 from rfl, q_eq (a := tp i) (b := 47) (by omega) (by decide), show (1 : Int32) = nI 1 from rfl, q_eq (a := r + 1) (b := 1) (by omega) (by decide), q_eq (a := x) (b := q) (by omega) (by omega), show (5 : Int32) = nI 5 from rfl, q_eq (a := x) (b := 5) (by omega) (by decide), show (2 : Int32) = nI 2 from rfl, q_lt (a := x) (b := 2) (by omega) (by decide), show (6 : Int32) = nI 6 from rfl, q_le (a := 6) (b := r + 1) (by decide) (by omega), nI_add, nI_add, nI_add, nI_add]
      have tl : tp i ≠ 47 → ¬ x = (if r = 0 then 5 else q) → q_Ci X (d - 1) 102 [.ref 97, .int (nI (tp i)), .int (nI m)] M4 (fun r12 M11 => ((¬ r12 = 0) → (q_Ex X d 103 22 [some (.ref 97), some (.int (nI (r + 1))), some (.int (nI q)), some (.int (nI (x + 1))), some (.int (nI (m + 1))), some (.int (nI (i + 1))), none] [] M11 (q_ri K))) ∧ ((r12 = 0) → (K (-1000 - nI i) M11))) := by
        intro g gx
        refine r_tells t2 g gx (m2 gx) rd (fun τ M5 hs f5 r5 => ⟨fun _ => ?_, fun g => absurd g (by decide)⟩) (fun hs M5 f5 => ⟨fun g => absurd rfl g, fun _ => h1 _ (ft hs) M5 (f4.tr f5)⟩)
        rw [hs] at hp
        have hsh : τ.1 = r ∧ τ.2.1 = q ∧ τ.2.2.1 = x + 1 ∧ τ.2.2.2.1 = m + 1 := by
          rw [p_step_e, if_neg g, if_neg gx] at hs
          repeat' split at hs
          all_goals first
            | (cases hs; exact ⟨rfl, rfl, rfl, rfl⟩)
            | (cases hs)
        have := ih (i + 1) τ M5 (by omega) (p_step_ok ok hs) r5 (f4.tr f5) hp
        rw [hsh.1, hsh.2.1, hsh.2.2.1, hsh.2.2.2] at this
        exact this
      have full : tp i ≠ 47 → x = (if r = 0 then 5 else q) → K (-1000 - nI i) M4 := fun g gx => h1 _ (ft (by rw [p_step_e, if_neg g, if_pos gx])) M4 f4
      have row : tp i = 47 → (if r = 0 then 2 ≤ x else x = q ∧ r + 1 < 6) → q_Ex X d 103 22 [some (.ref 97), some (.int (nI (r + 1 + 1))), some (.int (nI x)), some (.int (nI 0)), some (.int (nI m)), some (.int (nI (i + 1))), none] [] M4 (q_ri K) := by
        intro g gx
        have hs : p_step (tp i) (r, q, x, m, s, kd, co, nu, dA, wA) = some (r + 1, x, 0, m, s, kd, co, nu, dA, wA) := by rw [p_step_e, if_pos g, if_pos gx]
        rw [hs] at hp
        exact ih (i + 1) (r + 1, x, 0, m, s, kd, co, nu, dA, wA) M4 (by omega) (p_step_ok ok hs) rd f4 hp
      have norow : tp i = 47 → ¬ (if r = 0 then 2 ≤ x else x = q ∧ r + 1 < 6) → K (-1000 - nI i) M4 := fun g gx => h1 _ (ft (by rw [p_step_e, if_pos g, if_neg gx])) M4 f4
      refine ⟨fun g => ⟨fun g2 => ?_, fun g2 => ?_⟩, fun g => ⟨fun g2 => ?_, fun g2 => ?_⟩⟩
      · have hr0 : ¬ r = 0 := by omega
        rw [if_neg hr0] at tl full
        exact ⟨fun g3 => full g g3, fun g3 => ⟨hv, tl g g3⟩⟩
      · have hr0 : r = 0 := by omega
        rw [if_pos hr0] at tl full
        exact ⟨fun g3 => full g g3, fun g3 => ⟨hv, tl g g3⟩⟩
      · have hr0 : ¬ r = 0 := by omega
        rw [if_neg hr0] at row norow
        exact ⟨fun g3 => norow g (fun z => g3 z.1), fun g3 => ⟨fun g4 => norow g (by omega), fun g4 => row g ⟨g3, by omega⟩⟩⟩
      · have hr0 : r = 0 := by omega
        rw [if_pos hr0] at row norow
        exact ⟨fun g3 => norow g (by omega), fun g3 => row g (by omega)⟩
  exact loop L 0 p_0 _ (by omega) p_ok_0 r0 f0 rfl
end RSlope
