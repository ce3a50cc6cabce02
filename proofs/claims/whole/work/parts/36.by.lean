/-! orders in the reference; by, holds, cheap, who, used -/
def o_seen (t : Nat) : Nat → Nat
  | 0 => 0
  | i + 1 => o_seen t i ||| 2 ^ (t / 10 ^ i % 10)
theorem o_tab : ∀ n, n < 4 → n = 0 ∨ ∀ t, t < 1000 → ((t / 10 ^ n == 0 && o_seen t n == 2 ^ n - 1) = (List.range 9).any (fun p => decide (o_st n ≤ p) && decide (p < o_en n) && (t == o_at p))) := by decide +kernel
theorem o_dig : ∀ n, n < 4 → ∀ p, p < 9 → o_st n ≤ p → p < o_en n → (o_at p < 10 ^ n ∧ ∀ d, d < n → o_at p / 10 ^ d % 10 < n) := by decide +kernel
theorem o_mk4 : ∀ n, n < 4 → ∀ p, p < 9 → o_st n ≤ p → p < o_en n → ∀ q, q < 9 → (2 ^ p).testBit q = (decide (o_st n ≤ q) && decide (q < o_en n) && l_tk 4 (o_at p) n (o_at q)) := by decide +kernel
theorem o_seen_lt (t : Nat) : ∀ n, o_seen t n < 2 ^ 10 := by
  intro n
  induction n with
  | zero => exact Nat.two_pow_pos 10
  | succ n ih =>
    have := Nat.mod_lt (t / 10 ^ n) (show 0 < 10 by decide)
    exact Nat.or_lt_two_pow ih (Nat.pow_lt_pow_right (by decide) this)
theorem o_place {n t : Nat} (hn : 0 < n) (hn3 : n ≤ 3) : (t / 10 ^ n = 0 ∧ o_seen t n = 2 ^ n - 1) ↔ ∃ p, o_st n ≤ p ∧ p < o_en n ∧ t = o_at p := by
  have h9 := o_en9 hn3
  have hp : 10 ^ n ≤ 10 ^ 3 := Nat.pow_le_pow_right (by decide) hn3
  have hp0 : 0 < 10 ^ n := Nat.pos_of_ne_zero (by simp)
  by_cases ht : t < 1000
  · have h := (o_tab n (by omega)).resolve_left (by omega) t ht
    rw [Bool.eq_iff_iff, List.any_eq_true, Bool.and_eq_true, beq_iff_eq, beq_iff_eq] at h
    rw [h]
    constructor
    · rintro ⟨p, -, h2⟩
      simp only [Bool.and_eq_true, decide_eq_true_eq, beq_iff_eq] at h2
      exact ⟨p, h2.1.1, h2.1.2, h2.2⟩
    · rintro ⟨p, h1, h2, h3⟩
      exact ⟨p, List.mem_range.mpr (by omega), by simp [h1, h2, h3]⟩
  · constructor
    · rintro ⟨h1, -⟩
      have := (Nat.div_eq_zero_iff.mp h1).resolve_left (by omega)
      omega
    · rintro ⟨p, h1, h2, h3⟩
      have := o_lt (show p < 9 by omega)
      omega
theorem l_mk4 {n p : Nat} (hn3 : n ≤ 3) (h1 : o_st n ≤ p) (h2 : p < o_en n) : l_mk 4 (o_at p) n (2 ^ p) := by
  have h9 := o_en9 hn3
  refine ⟨Nat.pow_lt_pow_right (a := 2) (m := p) (n := 9) (by decide) (by omega), fun q => ?_⟩
  rcases Nat.lt_or_ge q 9 with hq | hq
  · exact o_mk4 n (by omega) p (by omega) h1 h2 q hq
  · rw [Nat.testBit_two_pow, decide_eq_false (show ¬ p = q by omega), decide_eq_false (show ¬ q < o_en n by omega), Bool.and_false, Bool.false_and]
theorem p_sum_one (g : Nat → Nat) (q : Nat) : ∀ k, p_sum (2 ^ q) g k = if q < k then g q else 0 := by
  intro k
  induction k with
  | zero => rw [if_neg (by omega)]; rfl
  | succ k ih =>
    rw [p_sum, ih, Nat.testBit_two_pow]
    by_cases e : q = k
    · subst e; rw [if_neg (by omega), decide_eq_true rfl, if_pos rfl, if_pos (by omega)]; omega
    · rw [decide_eq_false e]
      by_cases e2 : q < k
      · rw [if_pos e2, if_neg (show ¬ (false = true) by decide), if_pos (show q < k + 1 by omega), Nat.add_zero]
      · rw [if_neg e2, if_neg (show ¬ (false = true) by decide), if_neg (show ¬ q < k + 1 by omega)]
theorem p_sum_zero (m : Nat) (g : Nat → Nat) : ∀ k, p_sum m g k = 0 ↔ ∀ p, p < k → m.testBit p = true → g p = 0 := by
  intro k
  induction k with
  | zero => exact ⟨fun _ p hp => by omega, fun _ => rfl⟩
  | succ k ih =>
    rw [p_sum]
    constructor
    · intro h p hp hm
      have h1 : p_sum m g k = 0 := by omega
      by_cases e : p = k
      · subst e; rw [hm, if_pos rfl] at h; omega
      · exact ih.mp h1 p (by omega) hm
    · intro h
      rw [ih.mpr (fun p hp hm => h p (by omega) hm)]
      cases hm : m.testBit k with
      | true => rw [if_pos rfl, h k (by omega) hm]
      | false => rfl
theorem p_sum_le {m B : Nat} {g : Nat → Nat} (hg : ∀ p, g p ≤ B) : ∀ k, p_sum m g k ≤ k * B := by
  intro k
  induction k with
  | zero => exact Nat.zero_le _
  | succ k ih =>
    have := hg k
    rw [p_sum, Nat.add_mul, Nat.one_mul]
    split <;> omega
theorem t_F_len {n : Nat} (nu : Nat → Nat) {W : Nat → List (List Nat)} (hn3 : n ≤ 3) (hWl : ∀ e, e < n → (W e).length ≤ 126) (p : Nat) : (t_F n nu p (g_sel W n 0 0)).length ≤ 127 ^ 3 := by
  have h1 := g_sel_cnt W n 0 0 (fun e he => hWl e (by omega))
  have h2 : 127 ^ n ≤ 127 ^ 3 := Nat.pow_le_pow_right (by decide) hn3
  have h3 : (t_F n nu p (g_sel W n 0 0)).length ≤ (g_sel W n 0 0).length := by
    unfold t_F
    exact Nat.le_trans (List.length_filterMap_le _ _) (List.length_filter_le _ _)
  omega
theorem z_least_none (co : Nat → Nat) (N : Nat) (F : List (List (List Nat))) : F.length = 0 ↔ z_least co N F = none := by
  rcases List.eq_nil_or_concat F with q | ⟨G, x, rfl⟩
  · subst q; exact ⟨fun _ => rfl, fun _ => rfl⟩
  · rw [List.concat_eq_append, z_least_push]
    constructor
    · intro h; simp at h
    · intro h
      unfold z_mn at h
      split at h
      · cases h
      · split at h <;> cases h
section By
variable {X : Nat × (Nat → Int32)} {R C n : Nat} {kd co nu dc wc : Nat → Nat}
theorem law_one {W : Nat → List (List Nat)} {N p : Nat} (hn : 0 < n) (hn3 : n ≤ 3) (hWp : ∀ dr, dr < n → ∀ p ∈ W dr, g_wyOk N n nu wc p) (h1 : o_st n ≤ p) (h2 : p < o_en n) : (t_F n nu p (g_sel W n 0 0)).length = (g_law W nu 4 (o_at p) n).length := by
  have h9 := o_en9 hn3
  have h := law_cnt hn hn3 hWp (l_mk4 hn3 h1 h2) (fun _ => true)
  rw [p_sum_one, if_pos (by omega), g_ft, g_ft] at h
  exact h
theorem c_byIn (hw : b_wf R C n kd co nu dc wc) {d p : Nat} {M : q_M} {K : Int32 → q_M → Prop} (hd : 16 ≤ d) (hn0 : 0 < n) (hb : b_now M R C n kd co nu dc wc) (hk : M 0 15 = M 10 1 → k_ok M R C n kd co nu dc wc) (h1 : o_st n ≤ p) (h2 : p < o_en n) (h : ∀ M', h_fr M M' → M' 0 15 = M' 10 1 → k_ok M' R C n kd co nu dc wc → K (nI (g_law (g_W R C kd dc) nu 4 (o_at p) n).length) M') : q_Cr X d 74 [.ref 0] M (fun r8 M7 => r8 = 64 ∧ (q_Ci X d 35 [.ref 64, .int ((1 : Int32) <<< (nI p &&& 31))] M7 (fun r10 M9 => K r10 M9))) := by
  have hn3 := hw.2.2.1
  have h9 := o_en9 hn3
  refine c_studyNow hw hd hb hk (fun M1 f1 e1 k1 => ⟨rfl, ?_⟩)
  rw [n_sh p (by omega)]
  have hlt : 2 ^ p < 2 ^ 9 := Nat.pow_lt_pow_right (by decide) (by omega)
  refine c_familiesBy (g := fun p => (t_F n nu p (g_sel (g_W R C kd dc) n 0 0)).length) (by omega) (fun p hp => (k1.2.2.2.2 p hp).1) ?_
  rw [p_sum_one, if_pos (by omega), law_one hn0 hn3 (fun dr hdr => g_wy_ok hw.r (hw.2.2.2.2.2.1 dr hdr).1) h1 h2]
  exact h M1 f1 e1 k1
/-- whether only OWN's order has families -/
def g_hold (R C n : Nat) (kd nu dc : Nat → Nat) : Prop := ∀ p, o_st n < p → p < o_en n → (g_law (g_W R C kd dc) nu 4 (o_at p) n).length = 0
theorem c_holdsIn (hw : b_wf R C n kd co nu dc wc) {d : Nat} {M : q_M} {K : Int32 → q_M → Prop} (hd : 17 ≤ d) (hn0 : 0 < n) (hb : b_now M R C n kd co nu dc wc) (hk : M 0 15 = M 10 1 → k_ok M R C n kd co nu dc wc) (h : ∀ M', h_fr M M' → M' 0 15 = M' 10 1 → k_ok M' R C n kd co nu dc wc → (g_hold R C n kd nu dc → K 1 M') ∧ (¬ g_hold R C n kd nu dc → K 0 M')) : q_Ex X d 52 34 [some (.ref 0), some (.int (nI n)), some (.int 0), some (.int (nI (o_st n + 1)))] [] M (q_ri K) := by
  have hn3 := hw.2.2.1
  have h9 := o_en9 hn3
  have hse : o_st n + 1 ≤ o_en n := (show ∀ n, n < 4 → n = 0 ∨ o_st n + 1 ≤ o_en n by decide +kernel) n (by omega) |>.resolve_left (by omega)
  have loop : ∀ (j i b : Nat), i + j = o_en n → o_st n + 1 ≤ i → b < 512 → (∀ p, b.testBit p = (decide (o_st n < p) && decide (p < i))) → q_Ex X d 52 34 [some (.ref 0), some (.int (nI n)), some (.int (nI b)), some (.int (nI i))] [] M (q_ri K) := by
    intro j
    induction j with
    | zero =>
      intro i b hi hs hb2 hbt
      refine vc52_p34 (by omega) (c_endOfOrders hn3 ⟨fun _ => ?_, fun g => absurd ((q_le (by omega) (by omega)).mpr (by omega)) g⟩)
      refine c_studyNow hw (by omega) hb hk (fun M1 f1 e1 k1 => ⟨rfl, ?_⟩)
      refine c_familiesBy (g := fun p => (t_F n nu p (g_sel (g_W R C kd dc) n 0 0)).length) (by omega) (fun p hp => (k1.2.2.2.2 p hp).1) ?_
      have hle := p_sum_le (m := b) (g := fun p => (t_F n nu p (g_sel (g_W R C kd dc) n 0 0)).length) (B := 127 ^ 3) (fun p => t_F_len nu hn3 (g_W_len hw.r) p) 9
      obtain ⟨k1', k2'⟩ := h M1 f1 e1 k1
      have hz := p_sum_zero b (fun p => (t_F n nu p (g_sel (g_W R C kd dc) n 0 0)).length) 9
      have hh : p_sum b (fun p => (t_F n nu p (g_sel (g_W R C kd dc) n 0 0)).length) 9 = 0 ↔ g_hold R C n kd nu dc := by
        rw [hz]
        constructor
        · intro u p p1 p2
          rw [← law_one hn0 hn3 (fun dr hdr => g_wy_ok hw.r (hw.2.2.2.2.2.1 dr hdr).1) (by omega) p2]
          exact u p (by omega) (by rw [hbt p]; simp [p1]; omega)
        · intro u p p1 p2
          rw [hbt p, Bool.and_eq_true, decide_eq_true_eq, decide_eq_true_eq] at p2
          show (t_F n nu p (g_sel (g_W R C kd dc) n 0 0)).length = 0
          rw [law_one hn0 hn3 (fun dr hdr => g_wy_ok hw.r (hw.2.2.2.2.2.1 dr hdr).1) (by omega) (by omega)]
          exact u p p2.1 (by omega)
      rw [show (0 : Int32) = nI 0 from rfl, q_eq (by omega) (by decide), hh]
      exact ⟨k2', k1'⟩
    | succ j ih =>
      intro i b hi hs hb2 hbt
      refine vc52_p34 (by omega) (c_endOfOrders hn3 ⟨fun g => absurd ((q_le (by omega) (by omega)).mp g) (by omega), fun _ => ?_⟩)
      rw [n_sh i (by omega), n_or, nI_1]
      refine ih (i + 1) (b ||| 2 ^ i) (by omega) (by omega) (Nat.or_lt_two_pow (n := 9) hb2 (Nat.pow_lt_pow_right (by decide) (by omega))) (fun p => ?_)
      rw [Nat.testBit_or, hbt p, Nat.testBit_two_pow]
      by_cases e : p = i
      · subst e; simp; omega
      · rw [show decide (p < i + 1) = decide (p < i) by simp; omega, decide_eq_false (show ¬ i = p by omega), Bool.or_false]
  exact loop (o_en n - (o_st n + 1)) (o_st n + 1) 0 (by omega) (Nat.le_refl _) (by decide) (fun p => by
    rw [Nat.zero_testBit]
    by_cases e : o_st n < p
    · simp [show ¬ p < o_st n + 1 by omega]
    · simp [e])
theorem c_cheapIn (hw : b_wf R C n kd co nu dc wc) {d w o : Nat} {M : q_M} {K : Int32 → q_M → Prop} (hd : 17 ≤ d) (hn0 : 0 < n) (hq : c_q M R C n kd co nu dc wc w o) (h : ∀ M', h_fr M M' → M' 0 15 = M' 10 1 → k_ok M' R C n kd co nu dc wc → K (g_oj (z_least co (R * C) (g_law (g_W R C kd dc) nu w o n))) M') : q_Cr X d 74 [.ref 0] M (fun r5 M4 => r5 = 64 ∧ (q_Ci X d 76 [.ref 0] M4 (fun r7 M6 => q_Ci X d 36 [.ref 64, .int r7] M6 (fun r9 M8 => K r9 M8)))) := by
  have hn3 := hw.2.2.1
  have hRC := b_RC hw
  obtain ⟨hb, hl, hk⟩ := hq
  refine c_studyNow hw (by omega) hb hk (fun M1 f1 e1 k1 => ⟨rfl, ?_⟩)
  have hb1 : b_now M1 R C n kd co nu dc wc := hb.eq (fun k a b => f1.1 k (by omega) (by omega))
  refine c_ordersByLaw (by omega) hb1.2.2.2.2.1 hn3 (hl.eq (f1.1 10 (by decide) (by omega))) (fun mk hmk => ?_)
  refine c_leastCostBy (g := fun p => z_least co (R * C) (t_F n nu p (g_sel (g_W R C kd dc) n 0 0))) (l := fun p => (t_F n nu p (g_sel (g_W R C kd dc) n 0 0)).length) (by have := hmk.1; omega) (fun p hp => ⟨(k1.2.2.2.2 p hp).1, ?_, z_least_none _ _ _⟩) (fun p hp => (k1.2.2.2.2 p hp).2.1) (fun p x hx => ?_) ?_
  · have := t_F_len nu hn3 (g_W_len hw.r (kd2 := kd)) p
    show (t_F n nu p (g_sel (g_W R C kd dc) n 0 0)).length < 2 ^ 31
    omega
  · have := z_least_le (fun c hc => (hw.2.2.2.2.1 c hc).2.1) hx
    omega
  · rw [law_least hn0 hn3 (fun dr hdr => g_wy_ok hw.r (hw.2.2.2.2.2.1 dr hdr).1) hmk]
    exact h M1 f1 e1 k1
theorem c_whoIn (hw : b_wf R C n kd co nu dc wc) {d w o c : Nat} {M : q_M} {K : Int32 → q_M → Prop} (hd : 17 ≤ d) (hn0 : 0 < n) (hc : c < R * C) (hq : c_q M R C n kd co nu dc wc w o) (h : ∀ M', h_fr M M' → M' 0 15 = M' 10 1 → k_ok M' R C n kd co nu dc wc → K (nI (z_who (g_law (g_W R C kd dc) nu w o n) c)) M') : q_Cr X d 74 [.ref 0] M (fun r5 M4 => r5 = 64 ∧ (q_Ci X d 76 [.ref 0] M4 (fun r7 M6 => q_Ci X d 38 [.ref 64, .int (nI c), .int r7] M6 (fun r9 M8 => K r9 M8)))) := by
  have hn3 := hw.2.2.1
  obtain ⟨hb, hl, hk⟩ := hq
  refine c_studyNow hw (by omega) hb hk (fun M1 f1 e1 k1 => ⟨rfl, ?_⟩)
  have hb1 : b_now M1 R C n kd co nu dc wc := hb.eq (fun k a b => f1.1 k (by omega) (by omega))
  refine c_ordersByLaw (by omega) hb1.2.2.2.2.1 hn3 (hl.eq (f1.1 10 (by decide) (by omega))) (fun mk hmk => ?_)
  refine c_doorsThrough (g := fun p => z_who (t_F n nu p (g_sel (g_W R C kd dc) n 0 0)) c) (by omega) (by have := hmk.1; omega) hb1.2.2.1 (b_RC hw) hc (fun p hp => ((k1.2.2.2.2 p hp).2.2 c hc).2) ?_
  rw [law_who hn0 hn3 (fun dr hdr => g_wy_ok hw.r (hw.2.2.2.2.2.1 dr hdr).1) hmk]
  exact h M1 f1 e1 k1
/-! the reference -/
theorem r_isOrder {d : Nat} {a : Int32} {M : q_M} {K : Int32 → q_M → Prop} (hn : M 99 2 = nI n) (hn0 : 0 < n) (hn3 : n ≤ 3) (h1 : ∀ p, o_st n ≤ p → p < o_en n → a = nI (o_at p) → ∀ M', (∀ k, k ≠ 103 → M' k = M k) → (∀ e, e < n → M' 103 e = nI (o_at p / 10 ^ e % 10)) → K 1 M') (h2 : (∀ p, o_st n ≤ p → p < o_en n → a ≠ nI (o_at p)) → ∀ M', (∀ k, k ≠ 103 → M' k = M k) → K 0 M') : q_Ci X d 108 [.ref 97, .int a] M K := by
  have h9 := o_en9 hn3
  refine vc108 ?_
  rcases q_cases a with ha | ⟨t, ht, rfl⟩
  · have hno : ∀ p, o_st n ≤ p → p < o_en n → a ≠ nI (o_at p) := fun p p1 p2 e => by
      have := o_lt (show p < 9 by omega)
      rw [e] at ha
      exact q_nlt0 (by omega) ha
    exact vc108_p7 ⟨fun _ => ⟨fun _ => h2 hno M (fun _ _ => rfl), fun g => absurd ha g⟩, fun _ => ⟨fun _ => h2 hno M (fun _ _ => rfl), fun g => absurd ha g⟩⟩
  · have loop : ∀ (j i : Nat) (M1 : q_M), i + j = n → (∀ k, k ≠ 103 → M1 k = M k) → (∀ e, e < i → M1 103 e = nI (t / 10 ^ e % 10)) → q_Ex X d 108 7 [some (.ref 97), some (.int (nI t)), some (.int (nI (t / 10 ^ i))), some (.int (nI (o_seen t i))), some (.int (nI i))] [] M1 (q_ri K) := by
      intro j
      induction j with
      | zero =>
        intro i M1 hi f1 g1
        have ei : i = n := by omega
        subst ei
        have hdl : t / 10 ^ i ≤ t := Nat.div_le_self _ _
        have hsl := o_seen_lt t i
        have h2n : 1 ≤ 2 ^ i ∧ 2 ^ i ≤ 8 := ⟨Nat.one_le_two_pow, Nat.pow_le_pow_right (n := 2) (by decide) hn3⟩
        have pl := o_place (t := t) hn0 hn3
        have no : ¬ (t / 10 ^ i = 0 ∧ o_seen t i = 2 ^ i - 1) → K 0 M1 := fun q => h2 (fun p p1 p2 e => q (pl.mpr ⟨p, p1, p2, (q_eq ht (by have := o_lt (show p < 9 by omega); omega)).mp e⟩)) M1 f1
        refine vc108_p7 ⟨fun _ => ⟨fun g => absurd g (q_nlt0 ht), fun _ => ⟨fun g => ?_, fun g => ?_⟩⟩, fun g => absurd (by rw [f1 99 (by decide), hn, q_le (by omega) (by omega)]; omega) g⟩
        · exact no (fun q => g (by rw [q.1]; rfl))
        · rw [f1 99 (by decide), hn, n_sh i (by omega), show nI (2 ^ i) - 1 = nI (2 ^ i - 1) from pk_sub (a := 2 ^ i) (b := 1) h2n.1, q_eq (by omega) (by omega)]
          have g0 : t / 10 ^ i = 0 := (q_eq (b := 0) (by omega) (by decide)).mp g
          refine ⟨fun g2 => no (fun q => g2 q.2), fun g2 => ?_⟩
          obtain ⟨p, p1, p2, p3⟩ := pl.mp ⟨g0, g2⟩
          exact h1 p p1 p2 (by rw [p3]) M1 f1 (fun e he => by rw [g1 e he, p3])
      | succ j ih =>
        intro i M1 hi f1 g1
        have hdl : t / 10 ^ i ≤ t := Nat.div_le_self _ _
        have hdm := Nat.mod_lt (t / 10 ^ i) (show 0 < 10 by decide)
        refine vc108_p7 ⟨fun g => ?_, fun _ => ⟨fun g => absurd g (q_nlt0 ht), fun _ => ⟨q_vi (by omega) (by decide), ?_⟩⟩⟩
        · rw [f1 99 (by decide), hn, q_le (by omega) (by omega)] at g; omega
        · rw [show nI (t / 10 ^ i) - nI (t / 10 ^ i) / 10 * 10 = nI (t / 10 ^ i % 10) from pk_rem (d := 10) (by omega) (by decide) (by decide), show nI (t / 10 ^ i) / 10 = nI (t / 10 ^ i / 10) from pk_div (d := 10) (by omega) (by decide) (by decide), Nat.div_div_eq_div_mul, ← Nat.pow_succ, n_sh _ (by omega), n_or, q_cn (by omega), nI_1]
          refine ih (i + 1) _ (by omega) (fun k hk => by rw [q_set_n hk]; exact f1 k hk) (fun e he => ?_)
          rw [q_set_ap]
          by_cases q : e = i
          · subst q; rw [if_pos ⟨rfl, rfl⟩]
          · rw [if_neg (fun x => q x.2)]; exact g1 e (by omega)
    have := loop n 0 M (by omega) (fun _ _ => rfl) (fun e he => by omega)
    rw [Nat.pow_zero, Nat.div_one] at this
    exact this
theorem r_digits {d o : Nat} {M : q_M} {K : Int32 → q_M → Prop} (hn : M 99 2 = nI n) (hn3 : n ≤ 3) (ho : o < 10 ^ n) (hd : ∀ e, e < n → M 99 (4 + e) = nI (o / 10 ^ e % 10)) (h : K (nI o) M) : q_Ci X d 107 [.ref 97] M K := by
  refine vc107 ?_
  rw [hn]
  have loop : ∀ (i : Nat), i ≤ n → q_Ex X d 107 11 [some (.ref 97), some (.int (nI (o / 10 ^ i))), some (.int (nI i - 1))] [] M (q_ri K) := by
    intro i
    induction i with
    | zero =>
      intro _
      refine vc107_p11 ⟨fun _ => ?_, fun g => absurd (show nI 0 - 1 < 0 by decide) g⟩
      rw [Nat.pow_zero, Nat.div_one]; exact h
    | succ i ih =>
      intro hi
      rw [nI_pred]
      refine vc107_p11 ⟨fun g => absurd g (q_nlt0 (by omega)), fun _ => ?_⟩
      rw [show (4 : Int32) + nI i = nI (4 + i) from nI_add 4 i, q_cn (by omega), hd i (by omega), show (10 : Int32) * nI (o / 10 ^ (i + 1)) = nI (10 * (o / 10 ^ (i + 1))) from pk_mul 10 _, nI_add]
      refine ⟨q_vi (by omega) (by decide), ?_⟩
      have e : 10 * (o / 10 ^ (i + 1)) + o / 10 ^ i % 10 = o / 10 ^ i := by
        rw [Nat.pow_succ, ← Nat.div_div_eq_div_mul]
        omega
      rw [e, show nI i + (-1) = nI i - 1 from by rw [Int32.sub_eq_add_neg]]
      exact ih (by omega)
  have := loop n (Nat.le_refl n)
  rw [Nat.div_eq_of_lt ho] at this
  exact this
theorem r_familiesBy (hw : r_wf R C n kd nu dc wc) {d p ks : Nat} {se : Nat → Nat} {M : q_M} {K : Int32 → q_M → Prop} (hd : 17 ≤ d) (hb : r_b M R C n kd co nu) (hco : ∀ c, c < R * C → co c ≤ 9) (hst7 : M 99 7 = nI ks) (hks : ks ≤ 4) (hse : ∀ j, j < ks → M 99 (8 + j) = nI (se j) ∧ se j < R * C) (h1 : o_st n ≤ p) (h2 : p < o_en n) (ho : ∀ e, e < n → M 103 e = nI (o_at p / 10 ^ e % 10)) (h : ∀ M', x_fr M M' → K (nI (g_law (g_W R C kd dc) nu 4 (o_at p) n).length) M') : q_Ci X d 123 [.ref 97] M K := by
  have hn3 := hw.2.2.1
  have h9 := o_en9 hn3
  refine vc123 ?_
  have loop : ∀ (j i : Nat) (M1 : q_M), i + j = n → (∀ k, k ≠ 109 → M1 k = M k) → (∀ e, e < i → M1 109 e = g_oj (l_wnB 4 (o_at p) n e)) → q_Ex X d 123 2 [some (.ref 97), some (.int (nI i))] [] M1 (q_ri K) := by
    intro j
    induction j with
    | zero =>
      intro i M1 hi f1 g1
      refine vc123_p2 (by omega) ⟨fun _ => ?_, fun g => absurd (by rw [f1 99 (by decide), hb.2.2.1, q_le (by omega) (by omega)]; omega) g⟩
      refine r_findsFamilies hw (wk := none) (wn := l_wnB 4 (o_at p) n) (ks := ks) (se := se) (by omega) (hb.eq (f1 99 (by decide))) hco (by rw [f1 99 (by decide)]; exact hst7) hks (fun j hj => by rw [f1 99 (by decide)]; exact hse j hj) (fun k e => by cases e) (fun dr v hv => ?_) (fun dr hdr => g1 dr (by omega)) (fun M3 f3 w3 z3 => ?_)
      · unfold l_wnB at hv
        by_cases q : dr < n
        · rw [if_pos q] at hv
          have e : some (o_at p / 10 ^ dr % 10) = some v := hv
          have := Option.some.inj e
          have := (o_dig n (by omega) p (by omega) h1 h2).2 dr q
          omega
        · rw [if_neg q] at hv; cases hv
      · rw [z3.1]
        exact h M3 ⟨fun k a b => by rw [f3.1 k a b, f1 k (by omega)], fun j a => by rw [f3.2 j a, f1 97 (by decide)]⟩
    | succ j ih =>
      intro i M1 hi f1 g1
      refine vc123_p2 (by omega) ⟨fun g => ?_, fun _ => ⟨q_vi (by omega) (by decide), q_vi (by omega) (by decide), ?_⟩⟩
      · rw [f1 99 (by decide), hb.2.2.1, q_le (by omega) (by omega)] at g; omega
      · rw [q_cn (by omega), nI_1, f1 103 (by decide), ho i (by omega)]
        refine ih (i + 1) _ (by omega) (fun k hk => by rw [q_set_n hk]; exact f1 k hk) (fun e he => ?_)
        rw [q_set_ap]
        by_cases q : e = i
        · subst q; rw [if_pos ⟨rfl, rfl⟩]; unfold l_wnB; rw [if_pos (by omega)]; rfl
        · rw [if_neg (fun x => q x.2)]; exact g1 e (by omega)
  exact loop n 0 M (by omega) (fun _ _ => rfl) (fun e he => by omega)
theorem o_own : ∀ n, n < 4 → ∀ p, p < 9 → o_st n ≤ p → p < o_en n → (p = o_st n ↔ ∀ e, e < n → o_at p / 10 ^ e % 10 = e) := by decide +kernel
theorem o_le210 : ∀ p, p < 9 → o_at p ≤ 210 := by decide +kernel
theorem o_pos : ∀ n, n < 4 → ∀ p, p < 9 → o_st n < p → p < o_en n → 1 ≤ o_at p := by decide +kernel
theorem r_holdsIn (hw : r_wf R C n kd nu dc wc) {d ks : Nat} {se : Nat → Nat} {M : q_M} {K : Int32 → q_M → Prop} (hd : 19 ≤ d) (hn0 : 0 < n) (hb : r_b M R C n kd co nu) (hco : ∀ c, c < R * C → co c ≤ 9) (hst7 : M 99 7 = nI ks) (hks : ks ≤ 4) (hse : ∀ j, j < ks → M 99 (8 + j) = nI (se j) ∧ se j < R * C) (h : ∀ M', r_fr M M' → (g_hold R C n kd nu dc → K 1 M') ∧ (¬ g_hold R C n kd nu dc → K 0 M')) : q_Ex X d 129 16 [some (.ref 97), some (.int 1), none, none] [] M (q_ri K) := by
  have hn3 := hw.2.2.1
  have h9 := o_en9 hn3
  -- told goes up; what is behind it has no families
  have loop : ∀ (j i : Nat) (M1 : q_M), i + j = 211 → 1 ≤ i → r_fr M M1 → (∀ p, o_st n < p → p < o_en n → o_at p < i → (g_law (g_W R C kd dc) nu 4 (o_at p) n).length = 0) → q_Ex X d 129 16 [some (.ref 97), some (.int (nI i)), none, none] [] M1 (q_ri K) := by
    intro j
    induction j with
    | zero =>
      intro i M1 hi h1 f1 g1
      refine vc129_p16 (by omega) ⟨fun _ => (h M1 f1).1 (fun p p1 p2 => g1 p p1 p2 (by have := o_le210 p (by omega); omega)), fun g => absurd ((q_lt (a := 210) (by decide) (by omega)).mpr (by omega)) g⟩
    | succ j ih =>
      intro i M1 hi h1 f1 g1
      have e99 : M1 99 = M 99 := f1.1 99 (by omega)
      have next : ∀ M2 : q_M, r_fr M M2 → (∀ p, o_st n < p → p < o_en n → o_at p = i → (g_law (g_W R C kd dc) nu 4 (o_at p) n).length = 0) → q_Ex X d 129 16 [some (.ref 97), some (.int (nI i + 1)), none, none] [] M2 (q_ri K) := by
        intro M2 f2 g2
        rw [nI_1]
        refine ih (i + 1) M2 (by omega) (by omega) f2 (fun p p1 p2 p3 => ?_)
        by_cases e : o_at p = i
        · exact g2 p p1 p2 e
        · exact g1 p p1 p2 (by omega)
      refine vc129_p16 (by omega) ⟨fun g => absurd ((q_lt (a := 210) (by decide) (by omega)).mp g) (by omega), fun _ => ?_⟩
      refine r_isOrder (n := n) (by rw [e99]; exact hb.2.2.1) hn0 hn3 (fun p p1 p2 p3 M2 f2 o2 => ⟨fun _ => ?_, fun g => absurd g (by decide)⟩) (fun hno M2 f2 => ⟨fun g => absurd rfl g, fun _ => ?_⟩)
      · have ei : i = o_at p := (q_eq (by omega) (by have := o_lt (show p < 9 by omega); omega)).mp p3
        have f12 : r_fr M M2 := f1.tr ⟨fun k hk => f2 k (by omega), by rw [f2 97 (by decide)], by rw [f2 97 (by decide)]⟩
        have own := o_own n (by omega) p (by omega) p1 p2
        -- whether it is the own one
        have inner : ∀ (j e : Nat), e + j = n → q_Ex X d 129 38 [some (.ref 97), some (.int (nI i)), some (.int (nI (if ∀ x, x < e → o_at p / 10 ^ x % 10 = x then 1 else 0))), some (.int (nI e))] [] M2 (q_ri K) := by
          intro j
          induction j with
          | zero =>
            intro e he
            have ee : e = n := by omega
            subst ee
            refine vc129_p38 (by omega) ⟨fun _ => ⟨fun g => ?_, fun g => ?_⟩, fun g => absurd (by rw [f2 99 (by decide), e99, hb.2.2.1, q_le (by omega) (by omega)]; omega) g⟩
            · have q : ∀ x, x < e → o_at p / 10 ^ x % 10 = x := by
                by_cases q : ∀ x, x < e → o_at p / 10 ^ x % 10 = x
                · exact q
                · rw [if_neg q] at g; exact absurd rfl g
              refine next M2 f12 (fun p' p1' p2' p3' => ?_)
              have := o_inj hn3 (show o_st e ≤ p' by omega) p2' p1 p2 (by omega)
              have := own.mpr q
              omega
            · have q : ¬ ∀ x, x < e → o_at p / 10 ^ x % 10 = x := fun q => by
                rw [if_pos q] at g; exact absurd g (by decide)
              have hne : o_st e < p := by
                have : p ≠ o_st e := fun x => q (own.mp x)
                omega
              have e299 : M2 99 = M 99 := by rw [f2 99 (by decide), e99]
              refine r_familiesBy hw (p := p) (ks := ks) (se := se) (by omega) (hb.eq e299) hco (by rw [e299]; exact hst7) hks (fun j hj => by rw [e299]; exact hse j hj) p1 p2 o2 (fun M3 f3 => ?_)
              have f13 : r_fr M M3 := f12.tr f3.r
              have hcnt : (g_law (g_W R C kd dc) nu 4 (o_at p) e).length ≤ 126 ^ e := g_fam_cnt _ _ _ e 0 0 (fun x hx => g_W_len hw x (by omega))
              have hp3 : 126 ^ e ≤ 126 ^ 3 := Nat.pow_le_pow_right (by decide) hn3
              rw [show (0 : Int32) = nI 0 from rfl, q_le (by omega) (by decide)]
              refine ⟨fun g3 => next M3 f13 (fun p' p1' p2' p3' => ?_), fun g3 => (h M3 f13).2 (fun u => ?_)⟩
              · rw [p3', ei]; omega
              · have := u p hne p2; omega
          | succ j ihj =>
            intro e he
            refine vc129_p38 (by omega) ⟨fun g => ?_, fun _ => ⟨fun g => ?_, fun g => ⟨q_vi (by omega) (by decide), ?_⟩⟩⟩
            · rw [f2 99 (by decide), e99, hb.2.2.1, q_le (by omega) (by omega)] at g; omega
            · have q : ¬ ∀ x, x < e → o_at p / 10 ^ x % 10 = x := fun q => by
                rw [if_pos q] at g; exact absurd g (by decide)
              have q2 : ¬ ∀ x, x < e + 1 → o_at p / 10 ^ x % 10 = x := fun u => q (fun x hx => u x (by omega))
              have := ihj (e + 1) (by omega)
              rw [if_neg q2] at this
              rw [nI_1]
              exact this
            · have q : ∀ x, x < e → o_at p / 10 ^ x % 10 = x := by
                by_cases q : ∀ x, x < e → o_at p / 10 ^ x % 10 = x
                · exact q
                · rw [if_neg q] at g; exact absurd rfl g
              have hdm := Nat.mod_lt (o_at p / 10 ^ e) (show 0 < 10 by decide)
              have := ihj (e + 1) (by omega)
              rw [q_cn (by omega), o2 e (by omega), q_eq (by omega) (by omega), nI_1]
              refine ⟨fun g2 => ?_, fun g2 => ?_⟩
              · rw [if_neg (fun u => g2 (u e (by omega)))] at this
                exact this
              · rw [if_pos (fun x hx => by
                  by_cases x1 : x = e
                  · subst x1; exact g2
                  · exact q x (by omega))] at this
                exact this
        have := inner n 0 (by omega)
        rw [if_pos (fun x hx => by omega)] at this
        exact this
      · have f12 : r_fr M M2 := f1.tr ⟨fun k hk => f2 k (by omega), by rw [f2 97 (by decide)], by rw [f2 97 (by decide)]⟩
        exact next M2 f12 (fun p p1 p2 p3 => absurd (by rw [p3]) (hno p (by omega) p2))
  exact loop 210 1 M (by omega) (by decide) (r_fr.rf M) (fun p p1 p2 p3 => by have := o_pos n (by omega) p (by omega) p1 p2; omega)
end By
