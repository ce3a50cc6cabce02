/-! the reference's board and ways -/
def r_wf (R C n : Nat) (kd nu dc wc : Nat → Nat) : Prop :=
  R ≤ 6 ∧ C ≤ 5 ∧ n ≤ 3 ∧ ((R = 0 ∧ C = 0 ∧ n = 0) ∨ (2 ≤ R ∧ 2 ≤ C ∧ 1 ≤ n)) ∧ (∀ c, c < R * C → kd c ≤ 3 ∧ (2 ≤ kd c → nu c < n)) ∧
  (∀ d, d < n → dc d < R * C ∧ kd (dc d) = 2 ∧ nu (dc d) = d ∧ wc d < R * C ∧ kd (wc d) = 3 ∧ nu (wc d) = d) ∧ (∀ c, c < R * C → kd c = 2 → c = dc (nu c)) ∧ (∀ c, c < R * C → kd c = 3 → c = wc (nu c))
theorem b_wf.r {R C n : Nat} {kd co nu dc wc : Nat → Nat} (h : b_wf R C n kd co nu dc wc) : r_wf R C n kd nu dc wc :=
  ⟨h.1, h.2.1, h.2.2.1, h.2.2.2.1, fun c hc => ⟨(h.2.2.2.2.1 c hc).1, (h.2.2.2.2.1 c hc).2.2.2⟩, h.2.2.2.2.2⟩
def r_b (M : q_M) (R C n : Nat) (kd co nu : Nat → Nat) : Prop := M 99 0 = nI R ∧ M 99 1 = nI C ∧ M 99 2 = nI n ∧ ∀ c, c < R * C → M 99 (45 + 3 * c) = nI (kd c) ∧ M 99 (46 + 3 * c) = nI (co c) ∧ (2 ≤ kd c → M 99 (47 + 3 * c) = nI (nu c))
theorem r_b.eq {M M' : q_M} {R C n : Nat} {kd co nu : Nat → Nat} (h : r_b M R C n kd co nu) (hk : M' 99 = M 99) : r_b M' R C n kd co nu := by unfold r_b at *; rw [hk]; exact h
theorem r_RC {R C n : Nat} {kd nu dc wc : Nat → Nat} (h : r_wf R C n kd nu dc wc) : R * C ≤ 30 := Nat.mul_le_mul h.1 h.2.1
theorem r_Cpos {R C n : Nat} {kd nu dc wc : Nat → Nat} (h : r_wf R C n kd nu dc wc) {c : Nat} (hc : c < R * C) : 2 ≤ R ∧ 2 ≤ C := by
  rcases h.2.2.2.1 with ⟨h1, h2, h3⟩ | ⟨h1, h2, h3⟩
  · subst h1; simp at hc
  · exact ⟨h1, h2⟩
theorem r_ix0 (c : Nat) : (45 : Int32) + (3 : Int32) * nI c = nI (45 + 3 * c) := by
  rw [show (3 : Int32) * nI c = nI (3 * c) from pk_mul 3 c]; exact nI_add 45 (3 * c)
theorem r_ix2 (c : Nat) : ((45 : Int32) + (3 : Int32) * nI c) + 2 = nI (47 + 3 * c) := by
  rw [r_ix0, show nI (45 + 3 * c) + 2 = nI (45 + 3 * c + 2) from nI_add _ 2]; congr 1; omega
theorem r_ix1 (c : Nat) : ((45 : Int32) + (3 : Int32) * nI c) + 1 = nI (46 + 3 * c) := by
  rw [r_ix0, nI_1]; congr 1; omega
section RWays
variable {X : Nat × (Nat → Int32)} {R C n : Nat} {kd co nu dc wc : Nat → Nat}
theorem r_what {d c : Nat} {M : q_M} {K : Int32 → q_M → Prop} (hc : c < 30) (h : K (M 99 (45 + 3 * c)) M) : q_Ci X d 98 [.ref 97, .int (nI c)] M K := by
  refine vc98 ?_
  rw [r_ix0, q_cn (by omega)]
  exact ⟨q_vi (by omega) (by decide), h⟩
theorem r_number {d c : Nat} {M : q_M} {K : Int32 → q_M → Prop} (hc : c < 30) (h : K (M 99 (47 + 3 * c)) M) : q_Ci X d 100 [.ref 97, .int (nI c)] M K := by
  refine vc100 ?_
  rw [r_ix2, q_cn (by omega)]
  exact ⟨q_vi (by omega) (by decide), h⟩
theorem r_cost {d c : Nat} {M : q_M} {K : Int32 → q_M → Prop} (hc : c < 30) (h : K (M 99 (46 + 3 * c)) M) : q_Ci X d 99 [.ref 97, .int (nI c)] M K := by
  refine vc99 ?_
  rw [r_ix1, q_cn (by omega)]
  exact ⟨q_vi (by omega) (by decide), h⟩
theorem r_cells {d : Nat} {M : q_M} {K : Int32 → q_M → Prop} (hb : r_b M R C n kd co nu) (h : K (nI (R * C)) M) : q_Ci X d 95 [.ref 97] M K := by
  refine vc95 ?_
  rw [hb.1, hb.2.1, pk_mul]
  exact h
def g_oj : Option Nat → Int32
  | none => -9
  | some t => nI t
theorem r_next (hw : r_wf R C n kd nu dc wc) {d c st : Nat} {M : q_M} {K : Int32 → q_M → Prop} (hd : 0 < d) (hb : r_b M R C n kd co nu) (hc : c < R * C) (hst : st < 2) (h : K (g_oj (g_nx R C kd c st)) M) : q_Ci X d 111 [.ref 97, .int (nI c), .int (nI st)] M K := by
  have hRC := r_RC hw
  obtain ⟨hR2, hC2⟩ := r_Cpos hw hc
  have hR6 := hw.1
  have hC5 := hw.2.1
  refine vc111 hd ?_
  have hdl := g_div_lt (show 0 < C by omega) hc
  have hml := Nat.mod_lt c (show 0 < C by omega)
  rw [hb.1, hb.2.1, pk_rem (by omega) (by omega) (by omega), pk_div (by omega) (by omega) (by omega), show nI C - 1 = nI (C - 1) from pk_sub (a := C) (b := 1) (by omega), show nI R - 1 = nI (R - 1) from pk_sub (a := R) (b := 1) (by omega), q_le (by omega) (by omega), q_le (by omega) (by omega), nI_1, nI_add]
  refine ⟨fun g => ?_, fun g => ?_⟩
  · have h1 : st = 1 := by
      rcases (show st = 0 ∨ st = 1 by omega) with h0 | h0
      · subst h0; exact absurd rfl g
      · exact h0
    subst h1
    refine ⟨fun q => absurd ((q_eq (b := 0) (by omega) (by omega)).mp q) (by omega), fun g2 => ?_, fun g2 => ?_⟩
    · have e2 : g_nx R C kd c 1 = none := by unfold g_nx; rw [if_neg (by decide), if_neg (fun q => by omega)]
      rw [e2] at h; exact h
    · have hr : c % C + 1 < C := by omega
      obtain ⟨ht, -, -⟩ := g_right (by omega) hc hr
      refine r_what (by omega) ?_
      rw [(hb.2.2.2 _ ht).1]
      have hk3 := (hw.2.2.2.2.1 _ ht).1
      refine ⟨fun g3 => ?_, fun g3 => ?_⟩
      · have e1 : kd (c + 1) ≠ 1 := fun q => g3 (by rw [q]; rfl)
        have e2 : g_nx R C kd c 1 = some (c + 1) := by unfold g_nx; rw [if_neg (by decide), if_pos ⟨hr, e1⟩]
        rw [e2] at h; exact h
      · have e1 : kd (c + 1) = 1 := (q_eq (b := 1) (by omega) (by omega)).mp g3
        have e2 : g_nx R C kd c 1 = none := by unfold g_nx; rw [if_neg (by decide), if_neg (fun q => q.2 e1)]
        rw [e2] at h; exact h
  · have h0 : st = 0 := (q_eq (b := 0) (by omega) (by omega)).mp g
    subst h0
    have hdn : c + C < R * C ↔ c / C + 1 < R := by
      constructor
      · intro q; exact (g_down (by omega) q).2.2
      · intro q
        have : (c / C + 2) * C ≤ R * C := Nat.mul_le_mul_right C q
        have h3 := Nat.mod_add_div c C
        rw [Nat.add_mul, Nat.mul_comm (c / C) C] at this
        omega
    refine ⟨fun q => absurd ((q_eq (b := 0) (by omega) (by omega)).mp q) (by omega), fun g2 => ?_, fun g2 => ?_⟩
    · have e2 : g_nx R C kd c 0 = none := by unfold g_nx; rw [if_pos rfl, if_neg (fun q => by have := hdn.mp q.1; omega)]
      rw [e2] at h; exact h
    · have ht : c + C < R * C := hdn.mpr (by omega)
      refine r_what (by omega) ?_
      rw [(hb.2.2.2 _ ht).1]
      have hk3 := (hw.2.2.2.2.1 _ ht).1
      refine ⟨fun g3 => ?_, fun g3 => ?_⟩
      · have e1 : kd (c + C) ≠ 1 := fun q => g3 (by rw [q]; rfl)
        have e2 : g_nx R C kd c 0 = some (c + C) := by unfold g_nx; rw [if_pos rfl, if_pos ⟨ht, e1⟩]
        rw [e2] at h; exact h
      · have e1 : kd (c + C) = 1 := (q_eq (b := 1) (by omega) (by omega)).mp g3
        have e2 : g_nx R C kd c 0 = none := by unfold g_nx; rw [if_pos rfl, if_neg (fun q => q.2 e1)]
        rw [e2] at h; exact h
theorem r_cellOf (hw : r_wf R C n kd nu dc wc) {d k t tc : Nat} {M : q_M} {K : Int32 → q_M → Prop} (hd : 0 < d) (hb : r_b M R C n kd co nu) (hk : 2 ≤ k ∧ k ≤ 3) (ht : t < 3) (hc : tc < R * C) (h1 : kd tc = k) (h2 : nu tc = t) (hu : ∀ c, c < R * C → kd c = k → nu c = t → c = tc) (h : K (nI tc) M) : q_Ci X d 110 [.ref 97, .int (nI k), .int (nI t)] M K := by
  have hRC := r_RC hw
  refine vc110 ?_
  have loop : ∀ (j i : Nat), i + j = tc → q_Ex X d 110 2 [some (.ref 97), some (.int (nI k)), some (.int (nI t)), some (.int (nI i))] [] M (q_ri K) := by
    intro j
    induction j with
    | zero =>
      intro i hi
      have e : i = tc := by omega
      subst e
      refine vc110_p2 hd ?_
      refine r_what (by omega) ?_
      rw [(hb.2.2.2 i hc).1, h1]
      refine ⟨fun g => absurd rfl g, fun _ => ?_⟩
      refine r_number (by omega) ?_
      rw [(hb.2.2.2 i hc).2.2 (by omega), h2]
      exact ⟨fun _ => h, fun g => absurd rfl g⟩
    | succ j ih =>
      intro i hi
      have hi2 : i < R * C := by omega
      have hk3 := hw.2.2.2.2.1 i hi2
      have hn3 := hw.2.2.1
      refine vc110_p2 hd ?_
      refine r_what (by omega) ?_
      rw [(hb.2.2.2 i hi2).1, nI_1]
      refine ⟨fun _ => ih (i + 1) (by omega), fun g => ?_⟩
      rw [q_eq (by omega) (by omega)] at g
      refine r_number (by omega) ?_
      have := hk3.2 (by omega)
      rw [(hb.2.2.2 i hi2).2.2 (by omega)]
      refine ⟨fun g2 => ?_, fun _ => ih (i + 1) (by omega)⟩
      rw [q_eq (by omega) (by omega)] at g2
      have := hu i hi2 g g2
      omega
  exact loop tc 0 (by omega)
theorem r_cellOfD (hw : r_wf R C n kd nu dc wc) {d t : Nat} {M : q_M} {K : Int32 → q_M → Prop} (hd : 0 < d) (hb : r_b M R C n kd co nu) (ht : t < n) (h : K (nI (dc t)) M) : q_Ci X d 110 [.ref 97, .int 2, .int (nI t)] M K := by
  have hn := hw.2.2.1
  obtain ⟨a1, a2, a3, -⟩ := hw.2.2.2.2.2.1 t ht
  exact r_cellOf hw (k := 2) hd hb (by omega) (by omega) a1 a2 a3 (fun c hc e1 e2 => by rw [← e2]; exact hw.2.2.2.2.2.2.1 c hc e1) h
theorem r_cellOfW (hw : r_wf R C n kd nu dc wc) {d t : Nat} {M : q_M} {K : Int32 → q_M → Prop} (hd : 0 < d) (hb : r_b M R C n kd co nu) (ht : t < n) (h : K (nI (wc t)) M) : q_Ci X d 110 [.ref 97, .int 3, .int (nI t)] M K := by
  have hn := hw.2.2.1
  obtain ⟨-, -, -, a1, a2, a3⟩ := hw.2.2.2.2.2.1 t ht
  exact r_cellOf hw (k := 3) hd hb (by omega) (by omega) a1 a2 a3 (fun c hc e1 e2 => by rw [← e2]; exact hw.2.2.2.2.2.2.2 c hc e1) h
/-- the steps of a way as bits, from the place k on -/
def g_code : Nat → List Nat → Nat
  | k, a :: b :: r => (if b = a + 1 then 2 ^ k else 0) ||| g_code (k + 1) (b :: r)
  | _, _ => 0
theorem g_code_app (pre : List Nat) (c t : Nat) : ∀ k, g_code k (pre ++ [c, t]) = g_code k (pre ++ [c]) ||| (if t = c + 1 then 2 ^ (k + pre.length) else 0) := by
  induction pre with
  | nil => intro k; simp [g_code]
  | cons a r ih =>
    intro k
    cases r with
    | nil => simp [g_code]
    | cons b r =>
      have := ih (k + 1)
      simp only [List.cons_append] at this ⊢
      rw [g_code, g_code, this, Nat.or_assoc]
      simp [Nat.add_assoc, Nat.add_comm 1]
def v_at (M : q_M) (dr : Nat) (nu : Nat → Nat) (L : List (List Nat)) : Prop := M 108 dr = nI L.length ∧ ∀ (i : Nat) (p : List Nat), L[i]? = some p → M 104 (400 * dr + i) = nI (g_bits p) ∧ M 105 (400 * dr + i) = nI (g_code 0 p) ∧ M 106 (400 * dr + i) = nI (p.length - 1) ∧ M 107 (400 * dr + i) = nI (nu (p.getLastD 0))
def v_fr (M M' : q_M) (dr : Nat) : Prop := (∀ k, k < 104 ∨ 108 < k → M' k = M k) ∧ (∀ j, j ≠ dr → M' 108 j = M 108 j) ∧ ∀ k, 104 ≤ k → k ≤ 107 → ∀ j, (j < 400 * dr ∨ 400 * dr + 400 ≤ j) → M' k j = M k j
theorem v_fr.rf (M : q_M) (dr : Nat) : v_fr M M dr := ⟨fun _ _ => rfl, fun _ _ => rfl, fun _ _ _ _ _ => rfl⟩
theorem v_fr.tr {A B D : q_M} {dr : Nat} (h : v_fr A B dr) (h2 : v_fr B D dr) : v_fr A D dr := ⟨fun k a => (h2.1 k a).trans (h.1 k a), fun j hj => (h2.2.1 j hj).trans (h.2.1 j hj), fun k a b j hj => (h2.2.2 k a b j hj).trans (h.2.2 k a b j hj)⟩
theorem v_push {M : q_M} {dr : Nat} {nu : Nat → Nat} {L : List (List Nat)} (p : List Nat) (h : v_at M dr nu L) (hl : L.length < 400) :
    v_at (q_set (q_set (q_set (q_set (q_set M 104 (400 * dr + L.length) (nI (g_bits p))) 105 (400 * dr + L.length) (nI (g_code 0 p))) 106 (400 * dr + L.length) (nI (p.length - 1))) 107 (400 * dr + L.length) (nI (nu (p.getLastD 0)))) 108 dr (nI (L.length + 1))) dr nu (L ++ [p]) ∧
    v_fr M (q_set (q_set (q_set (q_set (q_set M 104 (400 * dr + L.length) (nI (g_bits p))) 105 (400 * dr + L.length) (nI (g_code 0 p))) 106 (400 * dr + L.length) (nI (p.length - 1))) 107 (400 * dr + L.length) (nI (nu (p.getLastD 0)))) 108 dr (nI (L.length + 1))) dr := by
  refine ⟨⟨by simp [q_set_ap], fun i q hq => ?_⟩, fun k a => ?_, fun j hj => ?_, fun k a b j hj => ?_⟩
  · by_cases hi : i < L.length
    · rw [List.getElem?_append_left hi] at hq
      have ne : ¬ 400 * dr + i = 400 * dr + L.length := by omega
      simpa [q_set_ap, show ¬ i = L.length by omega] using h.2 i q hq
    · have hi2 : i = L.length := by
        have := (List.getElem?_eq_some_iff.mp hq).1
        simp at this; omega
      subst hi2
      simp at hq
      subst hq
      simp [q_set_ap]
  · rw [q_set_n (by omega), q_set_n (by omega), q_set_n (by omega), q_set_n (by omega), q_set_n (by omega)]
  · simp [q_set_ap, hj]
  · have ne : ¬ j = 400 * dr + L.length := by omega
    simp [q_set_ap, ne, show ¬ k = 108 by omega]
/-- what waysFrom does at a cell behind others -/
def r_wC (X : Nat × (Nat → Int32)) (R C n : Nat) (kd co nu : Nat → Nat) (dr f d c : Nat) : Prop := ∀ (pre : List Nat) (M : q_M) (L : List (List Nat)) (K : q_M → Prop), pre ≠ [] → pre.length + f ≤ 12 → r_b M R C n kd co nu → (∀ x ∈ pre, x < R * C) → v_at M dr nu L → (L ++ (g_pth R C kd f c).map (pre ++ ·)).length ≤ 126 →
    (∀ M', v_fr M M' dr → v_at M' dr nu (L ++ (g_pth R C kd f c).map (pre ++ ·)) → K M') → q_Cv X d 112 [.ref 97, .int (nI dr), .int (nI c), .int (nI (g_bits (pre ++ [c]))), .int (nI (g_code 0 (pre ++ [c]))), .int (nI pre.length)] M K
theorem r_wloop (hw : r_wf R C n kd nu dc wc) {dr f d c : Nat} (hdr : dr < 3) (hd : 2 ≤ d) (hc : c < R * C) (hrec : ∀ st t, g_nx R C kd c st = some t → r_wC X R C n kd co nu dr f (d - 1) t) (pre : List Nat) (M : q_M) (L : List (List Nat)) (K : q_M → Prop) (hpl : ∀ st t, g_nx R C kd c st = some t → pre.length + f ≤ 11) (hb : r_b M R C n kd co nu) (hpre : ∀ x ∈ pre, x < R * C) (hL : v_at M dr nu L) (hlen : (L ++ g_ext R C kd f c pre).length ≤ 126)
    (hK : ∀ M', v_fr M M' dr → v_at M' dr nu (L ++ g_ext R C kd f c pre) → K M') : q_Ex X d 112 90 [some (.ref 97), some (.int (nI dr)), some (.int (nI c)), some (.int (nI (g_bits (pre ++ [c])))), some (.int (nI (g_code 0 (pre ++ [c])))), some (.int (nI pre.length)), some (.int 0), none] [] M (q_rn K) := by
  have hRC := r_RC hw
  obtain ⟨hR2, hC2⟩ := r_Cpos hw hc
  have hpc : ∀ x ∈ pre ++ [c], x < R * C := fun x hx => by
    rcases List.mem_append.mp hx with h | h
    · exact hpre x h
    · simp at h; rw [h]; exact hc
  have one : ∀ (st : Nat) (M1 : q_M) (L1 : List (List Nat)), st < 2 → r_b M1 R C n kd co nu → v_at M1 dr nu L1 → (L1 ++ (g_o (g_nx R C kd c st) (g_pth R C kd f)).map (fun p => pre ++ c :: p)).length ≤ 126 →
      (∀ M', v_fr M1 M' dr → v_at M' dr nu (L1 ++ (g_o (g_nx R C kd c st) (g_pth R C kd f)).map (fun p => pre ++ c :: p)) → q_Ex X d 112 90 [some (.ref 97), some (.int (nI dr)), some (.int (nI c)), some (.int (nI (g_bits (pre ++ [c])))), some (.int (nI (g_code 0 (pre ++ [c])))), some (.int (nI pre.length)), some (.int (nI (st + 1))), none] [] M' (q_rn K)) →
      q_Ex X d 112 90 [some (.ref 97), some (.int (nI dr)), some (.int (nI c)), some (.int (nI (g_bits (pre ++ [c])))), some (.int (nI (g_code 0 (pre ++ [c])))), some (.int (nI pre.length)), some (.int (nI st)), none] [] M1 (q_rn K) := by
    intro st M1 L1 hst hb1 hL1 hlen1 hK1
    refine vc112_p90 (by omega) ⟨fun g => absurd ((q_le (a := 2) (by omega) (by omega)).mp g) (by omega), fun _ => ?_⟩
    refine r_next hw (by omega) hb1 hc hst ?_
    rw [nI_1, nI_1]
    cases hn : g_nx R C kd c st with
    | none =>
      rw [hn] at hK1
      refine ⟨fun _ => hK1 M1 (v_fr.rf _ _) (by simpa [g_o] using hL1), fun g => absurd (show (-9 : Int32) < 0 by decide) g⟩
    | some t =>
      rw [hn] at hlen1 hK1
      rw [show g_oj (some t) = nI t from rfl]
      obtain ⟨ht, hft⟩ := g_nx_far (by omega) hc hn
      have hpl := hpl st t hn
      refine ⟨fun g => absurd g (q_nlt0 (by omega)), fun _ => ?_⟩
      have eb : nI (g_bits (pre ++ [c])) ||| ((1 : Int32) <<< (nI t &&& 31)) = nI (g_bits ((pre ++ [c]) ++ [t])) := by
        rw [n_sh t (by omega), n_or, g_bits_app (pre ++ [c]) [t]]
        simp [g_bits]
      have ec : nI (g_code 0 (pre ++ [c])) ||| (nI st <<< (nI pre.length &&& 31)) = nI (g_code 0 ((pre ++ [c]) ++ [t])) := by
        rw [List.append_assoc, show [c] ++ [t] = [c, t] from rfl, g_code_app]
        rcases (show st = 0 ∨ st = 1 by omega) with rfl | rfl
        · obtain ⟨e, -, -⟩ := g_nx0 hn
          rw [if_neg (by omega)]
          have e0 : nI 0 <<< (nI pre.length &&& 31) = 0 := (show ∀ k, k < 12 → nI 0 <<< (nI k &&& 31) = 0 by decide +kernel) _ (by omega)
          rw [e0, show (0 : Int32) = nI 0 from rfl, n_or]
        · obtain ⟨e, -, -⟩ := g_nx1 hn
          rw [if_pos e]
          have e1 : nI 1 <<< (nI pre.length &&& 31) = nI (2 ^ pre.length) := n_sh _ (by omega)
          rw [e1, n_or, Nat.zero_add]
      rw [eb, ec]
      have el : nI (pre.length + 1) = nI (pre ++ [c]).length := by simp
      rw [el]
      have e9 : (g_pth R C kd f t).map (fun p => pre ++ c :: p) = (g_pth R C kd f t).map ((pre ++ [c]) ++ ·) := by
        apply List.map_congr_left; intro p _; simp
      refine hrec st t hn (pre ++ [c]) M1 L1 _ (by simp) (by simp; omega) hb1 hpc hL1 (by rw [← e9]; exact hlen1) (fun M' h1 h2 => ?_)
      rw [← e9] at h2
      exact hK1 M' h1 h2
  have hlen' : (L ++ ((g_o (g_nx R C kd c 0) (g_pth R C kd f)).map (fun p => pre ++ c :: p) ++ (g_o (g_nx R C kd c 1) (g_pth R C kd f)).map (fun p => pre ++ c :: p))).length ≤ 126 := by
    rw [← List.map_append]; exact hlen
  refine one 0 M L (by decide) hb hL (by simp only [List.length_append] at hlen' ⊢; omega) (fun M1 hf1 hL1 => ?_)
  have hb1 : r_b M1 R C n kd co nu := hb.eq (hf1.1 99 (by omega))
  refine one 1 M1 _ (by decide) hb1 hL1 (by rw [List.append_assoc]; exact hlen') (fun M2 hf2 hL2 => ?_)
  refine vc112_p90 (by omega) ⟨fun _ => ?_, fun g => absurd (show (2 : Int32) ≤ nI 2 by decide) g⟩
  refine hK M2 (hf1.tr hf2) ?_
  unfold g_ext
  rw [List.map_append, ← List.append_assoc]
  exact hL2
theorem r_emit (hw : r_wf R C n kd nu dc wc) {dr d c : Nat} (hdr : dr < 3) (hd : 0 < d) (hc : c < R * C) (h3 : kd c = 3) (pre : List Nat) (M : q_M) (L : List (List Nat)) (K : q_M → Prop) (hb : r_b M R C n kd co nu) (hL : v_at M dr nu L) (hlen : L.length < 126)
    (hK : ∀ M', v_fr M M' dr → v_at M' dr nu (L ++ [pre ++ [c]]) → K M') : q_Cv X d 112 [.ref 97, .int (nI dr), .int (nI c), .int (nI (g_bits (pre ++ [c]))), .int (nI (g_code 0 (pre ++ [c]))), .int (nI pre.length)] M K := by
  have hRC := r_RC hw
  refine vc112 hd ?_
  refine r_what (by omega) ?_
  rw [(hb.2.2.2 c hc).1, h3]
  refine ⟨fun g => absurd rfl g, fun _ => ?_⟩
  have e1 : (400 : Int32) * nI dr + M 108 (Int32.toNatClampNeg (nI dr)) = nI (400 * dr + L.length) := by
    rw [q_cn (by omega), hL.1, show (400 : Int32) * nI dr = nI (400 * dr) from pk_mul 400 dr, nI_add]
  rw [e1, q_cn (by omega), q_cn (by omega)]
  have hv : vp_in (nI (400 * dr + L.length)) 1200 := q_vi (by omega) (by decide)
  have hv3 : vp_in (nI dr) 3 := q_vi hdr (by decide)
  refine ⟨hv3, hv, hv, hv, ?_⟩
  refine r_number (by omega) ?_
  refine ⟨hv, hv3, hv3, ?_⟩
  have hp := v_push (pre ++ [c]) hL (by omega)
  have el : (pre ++ [c]).getLastD 0 = c := by simp [List.getLastD_eq_getLast?]
  have el2 : (pre ++ [c]).length - 1 = pre.length := by simp
  rw [el, el2] at hp
  have en : (q_set (q_set (q_set M 104 (400 * dr + L.length) (nI (g_bits (pre ++ [c])))) 105 (400 * dr + L.length) (nI (g_code 0 (pre ++ [c])))) 106 (400 * dr + L.length) (nI pre.length)) 99 (47 + 3 * c) = nI (nu c) := by
    rw [q_set_n (by decide), q_set_n (by decide), q_set_n (by decide)]
    exact (hb.2.2.2 c hc).2.2 (by omega)
  rw [en, q_set_n (by decide), q_set_n (by decide), q_set_n (by decide), hL.1, nI_1]
  exact hK _ hp.2 hp.1
theorem r_waysFrom (hw : r_wf R C n kd nu dc wc) {dr : Nat} (hdr : dr < 3) : ∀ (f c d : Nat), c < R * C → g_far R C c ≤ f → f + 3 ≤ d → r_wC X R C n kd co nu dr f d c := by
  intro f
  induction f with
  | zero =>
    intro c d hc hfar hd pre M L K hne hpl hb hpre hL hlen hK
    have hRC := r_RC hw
    have hk3 := (hw.2.2.2.2.1 c hc).1
    have hpos : 0 < pre.length := List.length_pos_iff.mpr hne
    obtain ⟨hR2, hC2⟩ := r_Cpos hw hc
    have no : ∀ st, g_nx R C kd c st = none := fun st => by
      cases hn : g_nx R C kd c st with
      | none => rfl
      | some t => have := (g_nx_far (by omega) hc hn).2; omega
    by_cases h3 : kd c = 3
    · have e1 : g_pth R C kd 0 c = [[c]] := by unfold g_pth; rw [if_pos h3]
      rw [e1] at hlen hK
      exact r_emit hw hdr (by omega) hc h3 pre M L K hb hL (by simp at hlen; omega) hK
    · have e1 : g_pth R C kd 0 c = [] := by unfold g_pth; rw [if_neg h3]
      rw [e1] at hlen hK
      have hK0 : K M := hK M (v_fr.rf _ _) (by simpa using hL)
      refine vc112 (by omega) ?_
      refine r_what (by omega) ?_
      rw [(hb.2.2.2 c hc).1]
      refine ⟨fun _ => ⟨fun g => absurd ((q_le (b := 0) (by omega) (by omega)).mp g) (by omega), fun _ => ?_⟩, fun g => absurd ((q_eq (b := 3) (by omega) (by omega)).mp g) h3⟩
      refine r_what (by omega) ?_
      rw [(hb.2.2.2 c hc).1]
      refine ⟨fun _ => ?_, fun _ => hK0⟩
      have e2 : g_ext R C kd 0 c pre = [] := by unfold g_ext; rw [no 0, no 1]; rfl
      refine r_wloop hw (f := 0) hdr (by omega) hc (fun st t h => by rw [no st] at h; cases h) pre M L K (fun st t h => by rw [no st] at h; cases h) hb hpre hL (by rw [e2]; simpa using hlen) (fun M' h1 h2 => ?_)
      rw [e2] at h2
      exact hK M' h1 (by simpa using h2)
  | succ f ih =>
    intro c d hc hfar hd pre M L K hne hpl hb hpre hL hlen hK
    have hRC := r_RC hw
    have hk3 := (hw.2.2.2.2.1 c hc).1
    have hpos : 0 < pre.length := List.length_pos_iff.mpr hne
    obtain ⟨hR2, hC2⟩ := r_Cpos hw hc
    by_cases h3 : kd c = 3
    · have e1 : g_pth R C kd (f + 1) c = [[c]] := by unfold g_pth; rw [if_pos h3]
      rw [e1] at hlen hK
      exact r_emit hw hdr (by omega) hc h3 pre M L K hb hL (by simp at hlen; omega) hK
    · refine vc112 (by omega) ?_
      refine r_what (by omega) ?_
      rw [(hb.2.2.2 c hc).1]
      refine ⟨fun _ => ⟨fun g => absurd ((q_le (b := 0) (by omega) (by omega)).mp g) (by omega), fun _ => ?_⟩, fun g => absurd ((q_eq (b := 3) (by omega) (by omega)).mp g) h3⟩
      refine r_what (by omega) ?_
      rw [(hb.2.2.2 c hc).1]
      refine ⟨fun g => ?_, fun g => ?_⟩
      · have h2 : kd c ≠ 2 := fun q => g (by rw [q]; rfl)
        have e2 : (g_pth R C kd (f + 1) c).map (pre ++ ·) = g_ext R C kd f c pre := by
          unfold g_pth g_ext
          rw [if_neg h3, if_neg h2, List.map_map]
          rfl
        rw [e2] at hlen hK
        exact r_wloop hw (f := f) hdr (by omega) hc (fun st t h => ih t (d - 1) (g_nx_far (by omega) hc h).1 (by have := (g_nx_far (by omega) hc h).2; omega) (by omega)) pre M L K (fun _ _ _ => by omega) hb hpre hL hlen hK
      · have h2 : kd c = 2 := (q_eq (b := 2) (by omega) (by omega)).mp g
        have e1 : g_pth R C kd (f + 1) c = [] := by unfold g_pth; rw [if_neg h3, if_pos h2]
        rw [e1] at hK
        exact hK M (v_fr.rf _ _) (by simpa using hL)
/-- all ways of all doors are there -/
def r_wys (M : q_M) (R C n : Nat) (kd nu dc : Nat → Nat) : Prop := ∀ dr, dr < n → v_at M dr nu (g_wy R C kd (dc dr))
theorem r_findsWays (hw : r_wf R C n kd nu dc wc) {d : Nat} {M : q_M} {K : q_M → Prop} (hd : 15 ≤ d) (hb : r_b M R C n kd co nu) (hK : ∀ M', (∀ k, k < 104 ∨ 108 < k → M' k = M k) → r_wys M' R C n kd nu dc → K M') : q_Cv X d 113 [.ref 97] M K := by
  have hn3 := hw.2.2.1
  have hRC := r_RC hw
  refine vc113 ?_
  have loop : ∀ (j i : Nat) (M1 : q_M), i + j = n → (∀ k, k < 104 ∨ 108 < k → M1 k = M k) → (∀ dr, dr < i → v_at M1 dr nu (g_wy R C kd (dc dr))) → q_Ex X d 113 2 [some (.ref 97), some (.int (nI i)), none] [] M1 (q_rn K) := by
    intro j
    induction j with
    | zero =>
      intro i M1 hi hf hL
      refine vc113_p2 (by omega) ⟨fun _ => hK M1 hf (fun dr hdr => hL dr (by omega)), fun g => absurd ?_ g⟩
      rw [hf 99 (by omega), hb.2.2.1, q_le (by omega) (by omega)]; omega
    | succ j ih =>
      intro i M1 hi hf hL
      refine vc113_p2 (by omega) ⟨fun g => ?_, fun g => ⟨q_vi (by omega) (by decide), ?_⟩⟩
      · rw [hf 99 (by omega), hb.2.2.1, q_le (by omega) (by omega)] at g; omega
      · rw [q_cn (by omega), nI_1]
        have hb1 : r_b (q_set M1 108 i 0) R C n kd co nu := hb.eq (by rw [q_set_n (by decide)]; exact hf 99 (by omega))
        refine r_cellOfD hw (by omega) hb1 (by omega) ?_
        obtain ⟨hdc, hdk, -⟩ := hw.2.2.2.2.2.1 i (by omega)
        obtain ⟨hR2, hC2⟩ := r_Cpos hw hdc
        have hfar := g_far_le (c := dc i) hw.1 hw.2.1
        have hE : g_ext R C kd 10 (dc i) [] = g_wy R C kd (dc i) := by unfold g_ext g_wy; rfl
        rw [n_sh _ (by omega)]
        refine vc112 (by omega) ?_
        refine r_what (by omega) ?_
        rw [(hb1.2.2.2 _ hdc).1, hdk]
        refine ⟨fun _ => ⟨fun _ => ?_, fun g => absurd (show (0 : Int32) ≤ 0 by decide) g⟩, fun g => absurd g (by decide)⟩
        have hb9 : g_bits ([] ++ [dc i]) = 2 ^ dc i := by simp [g_bits]
        rw [← hb9]
        show q_Ex X (d - 1) 112 90 [some (.ref 97), some (.int (nI i)), some (.int (nI (dc i))), some (.int (nI (g_bits ([] ++ [dc i])))), some (.int (nI (g_code 0 ([] ++ [dc i])))), some (.int (nI ([] : List Nat).length)), some (.int 0), none] [] (q_set M1 108 i 0) _
        refine r_wloop hw (f := 10) (dr := i) (c := dc i) (by omega) (by omega) hdc (fun st t h => r_waysFrom hw (by omega) 10 t _ (g_nx_far (by omega) hdc h).1 (by have := (g_nx_far (by omega) hdc h).2; omega) (by omega)) [] (q_set M1 108 i 0) [] _ (fun _ _ _ => by decide) hb1 (fun x hx => by simp at hx) ⟨by simp [q_set_ap, nI_0], fun i p hp => by simp at hp⟩ (by
          rw [hE]; simpa using g_wy_len (by omega) hw.1 hw.2.1 hdc) (fun M2 hf2 hL2 => ?_)
        rw [hE, List.nil_append] at hL2
        refine ih (i + 1) M2 (by omega) (fun k hk => ?_) (fun dr hdr => ?_)
        · rw [hf2.1 k hk, q_set_n (by omega)]; exact hf k hk
        · by_cases e : dr = i
          · subst e; exact hL2
          · have h0 := hL dr (by omega)
            have hle : (g_wy R C kd (dc dr)).length ≤ 126 := g_wy_len (by omega) hw.1 hw.2.1 (hw.2.2.2.2.2.1 dr (by omega)).1
            refine ⟨?_, fun t p hp => ?_⟩
            · rw [hf2.2.1 dr e, q_set_ap, if_neg (by omega)]; exact h0.1
            · have hti := (List.getElem?_eq_some_iff.mp hp).1
              have := h0.2 t p hp
              rw [hf2.2.2 104 (by omega) (by omega) _ (by omega), hf2.2.2 105 (by omega) (by omega) _ (by omega), hf2.2.2 106 (by omega) (by omega) _ (by omega), hf2.2.2 107 (by omega) (by omega) _ (by omega), q_set_n (by decide), q_set_n (by decide), q_set_n (by decide), q_set_n (by decide)]
              exact this
  exact loop n 0 M (by omega) (fun k hk => rfl) (fun dr h => by omega)
end RWays
