/-! the greatest common divisor; used; boxes -/
theorem n_gcd (a b : Nat) : Nat.gcd a b = Nat.gcd b (a % b) := by rw [Nat.gcd_comm a b, Nat.gcd_rec b a, Nat.gcd_comm]
theorem n_half {b r : Nat} (h : r < b) (hr : 0 < r) : b % r * 2 < b := by
  have h1 := Nat.mod_lt b hr
  have h2 := Nat.div_add_mod b r
  have h3 : 1 ≤ b / r := (Nat.le_div_iff_mul_le hr).mpr (by omega)
  have h4 : r * 1 ≤ r * (b / r) := Nat.mul_le_mul_left r h3
  omega
section Used
variable {X : Nat × (Nat → Int32)} {R C n : Nat} {kd co nu dc wc : Nat → Nat}
theorem c_gcd {M : q_M} {K : Int32 → q_M → Prop} {d : Nat} (hd : 0 < d) : ∀ (k a b i : Nat), b < 2 ^ k → a < 2 ^ 31 → b < 2 ^ 31 → 0 < a → i + 2 * k ≤ 64 → K (nI (Nat.gcd a b)) M → q_Ex X d 83 7 [none, none, some (.int (nI a)), some (.int (nI b)), some (.int (nI i)), none] [] M (q_ri K) := by
  have fin : ∀ a, a < 2 ^ 31 → 0 < a → (if nI a < 1 then (1 : Int32) else nI a) = nI a := fun a ha h0 => by
    rw [if_neg (fun q => by have := (q_lt (b := 1) ha (by decide)).mp q; omega)]
  have zero : ∀ (a i : Nat), a < 2 ^ 31 → 0 < a → i ≤ 64 → K (nI a) M → q_Ex X d 83 7 [none, none, some (.int (nI a)), some (.int (nI 0)), some (.int (nI i)), none] [] M (q_ri K) := fun a i ha h0 _ h => by
    refine vc83_p7 hd ⟨fun _ => ?_, fun _ => ⟨fun _ => ?_, fun g => absurd (show nI 0 ≤ 0 by decide) g⟩⟩
    · rw [fin a ha h0]; exact h
    · rw [fin a ha h0]; exact h
  intro k
  induction k with
  | zero =>
    intro a b i hb ha _ h0 hi h
    have e : b = 0 := by have : 2 ^ 0 = 1 := rfl; omega
    subst e
    rw [Nat.gcd_zero_right] at h
    exact zero a i ha h0 (by omega) h
  | succ k ih =>
    intro a b i hb ha hb31 h0 hi h
    rcases Nat.eq_zero_or_pos b with e | e
    · subst e
      rw [Nat.gcd_zero_right] at h
      exact zero a i ha h0 (by omega) h
    · have hm := Nat.mod_lt a e
      rw [n_gcd] at h
      refine vc83_p7 hd ⟨fun g => absurd ((q_le (a := 64) (by decide) (by omega)).mp g) (by omega), fun _ => ⟨fun g => absurd ((q_le (b := 0) (by omega) (by decide)).mp g) (by omega), fun _ => ⟨fun g => absurd ((q_eq (b := 0) (by omega) (by decide)).mp g) (by omega), ?_⟩⟩⟩
      rw [pk_rem ha e hb31, nI_1]
      rcases Nat.eq_zero_or_pos (a % b) with e2 | e2
      · rw [e2] at h ⊢
        rw [Nat.gcd_zero_right] at h
        exact zero b (i + 1) hb31 e (by omega) h
      · rw [n_gcd] at h
        have hh := n_half hm e2
        have hm2 := Nat.mod_lt b e2
        refine vc83_p7 hd ⟨fun g => absurd ((q_le (a := 64) (by decide) (by omega)).mp g) (by omega), fun _ => ⟨fun g => absurd ((q_le (b := 0) (by omega) (by decide)).mp g) (by omega), fun _ => ⟨fun g => absurd ((q_eq (b := 0) (by omega) (by decide)).mp g) (by omega), ?_⟩⟩⟩
        rw [pk_rem hb31 e2 (by omega), nI_1]
        exact ih (a % b) (b % (a % b)) (i + 1 + 1) (by rw [Nat.pow_succ] at hb; omega) (by omega) (by omega) e2 (by omega) h
theorem c_greatest {d a b : Nat} {M : q_M} {K : Int32 → q_M → Prop} (hd : 0 < d) (ha : a < 2 ^ 31) (h0 : 0 < a) (hb : b < 2 ^ 31) (h : K (nI (Nat.gcd a b)) M) : q_Ci X d 83 [.int (nI a), .int (nI b)] M K := vc83 (c_gcd hd 31 a b 0 hb ha hb h0 (by decide) h)
theorem r_common {M : q_M} : ∀ (k a b d : Nat) (K : Int32 → q_M → Prop), b < 2 ^ k → a < 2 ^ 31 → b < 2 ^ 31 → 2 * k + 1 ≤ d → K (nI (Nat.gcd a b)) M → q_Ci X d 132 [.int (nI a), .int (nI b)] M K := by
  have zero : ∀ (a d : Nat) (K : Int32 → q_M → Prop), 0 < d → K (nI a) M → q_Ci X d 132 [.int (nI a), .int (nI 0)] M K := fun a d K hd h => vc132 hd ⟨fun g => absurd rfl g, fun _ => h⟩
  intro k
  induction k with
  | zero =>
    intro a b d K hb ha _ hd h
    have e : b = 0 := by have : 2 ^ 0 = 1 := rfl; omega
    subst e
    rw [Nat.gcd_zero_right] at h
    exact zero a d K (by omega) h
  | succ k ih =>
    intro a b d K hb ha hb31 hd h
    rcases Nat.eq_zero_or_pos b with e | e
    · subst e
      rw [Nat.gcd_zero_right] at h
      exact zero a d K (by omega) h
    · have hm := Nat.mod_lt a e
      have hnb : ¬ nI b = 0 := fun g => absurd ((q_eq (b := 0) (by omega) (by decide)).mp g) (by omega)
      rw [n_gcd] at h
      refine vc132 (by omega) ⟨fun _ => ⟨hnb, ?_⟩, fun g => absurd g hnb⟩
      rw [pk_rem ha e hb31]
      rcases Nat.eq_zero_or_pos (a % b) with e2 | e2
      · rw [e2] at h ⊢
        rw [Nat.gcd_zero_right] at h
        exact zero b _ _ (by omega) h
      · rw [n_gcd] at h
        have hh := n_half hm e2
        have hm2 := Nat.mod_lt b e2
        have hnr : ¬ nI (a % b) = 0 := fun g => absurd ((q_eq (b := 0) (by omega) (by decide)).mp g) (by omega)
        refine vc132 (by omega) ⟨fun _ => ⟨hnr, ?_⟩, fun g => absurd g hnr⟩
        rw [pk_rem hb31 e2 (by omega)]
        exact ih (a % b) (b % (a % b)) _ _ (by rw [Nat.pow_succ] at hb; omega) (by omega) (by omega) (by omega) h
/-- the answer of used: u of f families go there -/
def g_used (f u part : Nat) : Nat := if u = 0 then (if part = 0 then 0 else 1) else (if part = 0 then u / Nat.gcd f u else f / Nat.gcd f u)
theorem c_usedIn (hw : b_wf R C n kd co nu dc wc) {d w o c part : Nat} {M : q_M} {K : Int32 → q_M → Prop} (hd : 19 ≤ d) (hn0 : 0 < n) (hc : c < R * C) (hp : part < 2) (hq : c_q M R C n kd co nu dc wc w o) (h : ∀ M', h_fr M M' → M' 0 15 = M' 10 1 → k_ok M' R C n kd co nu dc wc → K (nI (g_used (g_law (g_W R C kd dc) nu w o n).length (z_cnt (g_law (g_W R C kd dc) nu w o n) c) part)) M') : q_Ci X (d - 1) 78 [.ref 0, .int (nI c)] M (fun r9 M8 => ((¬ r9 = 0) → (q_Ci X (d - 1) 77 [.ref 0] M8 (fun r12 M11 => q_Ci X (d - 1) 83 [.int r12, .int r9] M11 (fun r14 M13 => ((¬ nI part = 0) → (¬ r14 = 0 ∧ (K (r12 / r14) M13))) ∧ ((nI part = 0) → (¬ r14 = 0 ∧ (K (r9 / r14) M13))))))) ∧ ((r9 = 0) → (q_Ci X (d - 1) 83 [.int 1, .int r9] M8 (fun r17 M16 => ((¬ nI part = 0) → (¬ r17 = 0 ∧ (K ((1 : Int32) / r17) M16))) ∧ ((nI part = 0) → (¬ r17 = 0 ∧ (K (r9 / r17) M16))))))) := by
  have hlen := law_len (w := w) (o := o) hw
  have hcl := z_cnt_le (g_law (g_W R C kd dc) nu w o n) c
  refine c_famThrough hw (by omega) hn0 hc hq (fun M1 f1 e1 k1 => ?_)
  generalize hu : z_cnt (g_law (g_W R C kd dc) nu w o n) c = u at *
  rw [show (0 : Int32) = nI 0 from rfl, q_eq (by omega) (by decide), q_eq (by omega) (by decide)]
  refine ⟨fun g => ?_, fun g => ?_⟩
  · have hq1 : c_q M1 R C n kd co nu dc wc w o := ⟨hq.1.eq (fun k a b => f1.1 k (by omega) (by omega)), hq.2.1.eq (f1.1 10 (by decide) (by omega)), fun _ => k1⟩
    refine c_familiesByLaw hw (by omega) hn0 hq1 (fun M2 f2 e2 k2 => ?_)
    generalize hf : (g_law (g_W R C kd dc) nu w o n).length = f at *
    have hg := Nat.gcd_pos_of_pos_right f (show 0 < u by omega)
    have hgl := Nat.gcd_le_right f (show 0 < u by omega)
    refine c_greatest (by omega) (by omega) (by omega) (by omega) ?_
    have h2 := h M2 (f1.tr f2) e2 k2
    unfold g_used at h2
    rw [if_neg g] at h2
    rw [q_eq (by omega) (by decide), pk_div (by omega) hg (by omega), pk_div (by omega) hg (by omega)]
    refine ⟨fun g2 => ⟨by omega, ?_⟩, fun g2 => ⟨by omega, ?_⟩⟩
    · rw [if_neg g2] at h2; exact h2
    · rw [if_pos g2] at h2; exact h2
  · subst g
    refine c_greatest (a := 1) (b := 0) (by omega) (by decide) (by decide) (by decide) ?_
    have h2 := h M1 f1 e1 k1
    unfold g_used at h2
    rw [if_pos rfl] at h2
    rw [show Nat.gcd 1 0 = 1 from rfl]
    refine ⟨fun g2 => ⟨by decide, ?_⟩, fun g2 => ⟨by decide, ?_⟩⟩
    · rw [if_neg g2] at h2; exact h2
    · rw [if_pos g2] at h2; exact h2
theorem r_usedIn (hw : r_wf R C n kd nu dc wc) {d w o ks c part : Nat} {se : Nat → Nat} {M : q_M} {K : Int32 → q_M → Prop} (hd : 66 ≤ d) (hb : r_b M R C n kd co nu) (hco : ∀ c, c < R * C → co c ≤ 9) (hst : r_st M (R * C) n w o ks se) (hc : c < R * C) (hp : part < 2) (h : ∀ M', x_fr M M' → K (nI (g_used (g_law (g_W R C kd dc) nu w o n).length (z_cnt (g_law (g_W R C kd dc) nu w o n) c) part)) M') : q_Cv X (d - 1) 122 [.ref 97, .int (-9)] M (fun M7 => ((¬ (M7 97 20) = 0) → (vp_in (nI c) 30 ∧ (q_Ci X (d - 1) 132 [.int (M7 97 20), .int (M7 112 (Int32.toNatClampNeg (nI c)))] M7 (fun r10 M9 => ((¬ nI part = 0) → (¬ r10 = 0 ∧ (K ((M9 97 20) / r10) M9))) ∧ ((nI part = 0) → (vp_in (nI c) 30 ∧ (¬ r10 = 0 ∧ (K ((M9 112 (Int32.toNatClampNeg (nI c))) / r10) M9)))))))) ∧ (((M7 97 20) = 0) → (K (nI part) M7))) := by
  have hRC := r_RC hw
  have hn3 := hw.2.2.1
  refine r_findsByLaw hw (wk := none) (by omega) hb hco hst (fun k e => by cases e) (fun M1 f1 w1 z1 => ?_)
  have z1a : M1 97 20 = nI (g_law (g_W R C kd dc) nu w o n).length := z1.1
  have z1b : M1 112 c = nI (z_cnt (g_law (g_W R C kd dc) nu w o n) c) := (z1.2.2.2.2.2.1 c hc).1
  have hcnt : (g_law (g_W R C kd dc) nu w o n).length ≤ 126 ^ n := g_fam_cnt _ _ _ n 0 0 (fun e he => g_W_len hw e (by omega))
  have hp3 : 126 ^ n ≤ 126 ^ 3 := Nat.pow_le_pow_right (by decide) hn3
  have hcl := z_cnt_le (g_law (g_W R C kd dc) nu w o n) c
  have h2 := h M1 f1
  rw [q_cn (by omega), z1b]
  generalize hu : z_cnt (g_law (g_W R C kd dc) nu w o n) c = u at *
  generalize hf : (g_law (g_W R C kd dc) nu w o n).length = f at *
  rw [z1a, show (0 : Int32) = nI 0 from rfl, q_eq (by omega) (by decide), q_eq (by omega) (by decide)]
  unfold g_used at h2
  have hv : vp_in (nI c) 30 := q_vi (by omega) (by decide)
  refine ⟨fun g => ⟨hv, ?_⟩, fun g => ?_⟩
  · refine r_common 31 f u (d - 1) _ (by omega) (by omega) (by omega) (by omega) ?_
    have hg := Nat.gcd_pos_of_pos_left u (show 0 < f by omega)
    have hgl := Nat.gcd_le_left u (show 0 < f by omega)
    rw [z1a, z1b, q_eq (by omega) (by decide), pk_div (by omega) hg (by omega), pk_div (by omega) hg (by omega)]
    refine ⟨fun g2 => ⟨by omega, ?_⟩, fun g2 => ⟨hv, by omega, ?_⟩⟩
    · by_cases u0 : u = 0
      · rw [if_pos u0, if_neg g2] at h2
        rw [u0, Nat.gcd_zero_right, Nat.div_self (by omega)]
        exact h2
      · rw [if_neg u0, if_neg g2] at h2; exact h2
    · by_cases u0 : u = 0
      · rw [if_pos u0, if_pos g2] at h2
        rw [u0, Nat.zero_div]
        exact h2
      · rw [if_neg u0, if_pos g2] at h2; exact h2
  · have u0 : u = 0 := by omega
    rw [if_pos u0] at h2
    rcases (show part = 0 ∨ part = 1 by omega) with e | e
    · subst e; exact h2
    · subst e; exact h2
/-! boxes -/
def x_in (i c : Nat) : Nat → Nat → Nat × Nat → Nat × Nat
  | 0, _, s => s
  | k + 1, j, s => x_in i c k (j + 1) (s.1 * (i + j + c - 1), s.2 * (i + j - 1))
def x_out (b c : Nat) : Nat → Nat → Nat × Nat → Nat × Nat
  | 0, _, s => s
  | k + 1, i, s => x_out b c k (i + 1) (x_in i c b 1 s)
def y_in (i c : Nat) : Nat → Nat → Nat × Nat → Option (Nat × Nat)
  | 0, _, s => some s
  | k + 1, j, s => if 0 < s.1 * (i + j + c - 1) ∧ s.1 * (i + j + c - 1) < 2 ^ 31 ∧ 0 < s.2 * (i + j - 1) ∧ s.2 * (i + j - 1) < 2 ^ 31 then y_in i c k (j + 1) (s.1 * (i + j + c - 1) / Nat.gcd (s.1 * (i + j + c - 1)) (s.2 * (i + j - 1)), s.2 * (i + j - 1) / Nat.gcd (s.1 * (i + j + c - 1)) (s.2 * (i + j - 1))) else none
def y_out (b c : Nat) : Nat → Nat → Nat × Nat → Option (Nat × Nat)
  | 0, _, s => some s
  | k + 1, i, s => match y_in i c b 1 s with
    | none => none
    | some t => y_out b c k (i + 1) t
def y_ok (a b c : Nat) : Bool := match y_out b c a 1 (1, 1) with
  | none => false
  | some t => decide (0 < t.2) && decide (t.2 < 2 ^ 31) && decide (t.1 < 2 ^ 31) && decide ((x_out b c a 1 (1, 1)).1 < 2 ^ 63) && decide ((x_out b c a 1 (1, 1)).2 < 2 ^ 63) && decide (0 < (x_out b c a 1 (1, 1)).2) && decide (t.1 / t.2 = (x_out b c a 1 (1, 1)).1 / (x_out b c a 1 (1, 1)).2)
theorem y_all : ∀ a, a < 5 → ∀ b, b < 5 → ∀ c, c < 5 → (c = 0 ∨ y_ok a b c = true) := by decide +kernel
theorem y_all0 : ∀ a, a < 5 → ∀ b, b < 5 → y_ok a b 0 = true := by decide +kernel
def g_box (a b c : Nat) : Nat := (x_out b c a 1 (1, 1)).1 / (x_out b c a 1 (1, 1)).2
theorem c_boxes {d a b c : Nat} {M : q_M} {K : Int32 → q_M → Prop} (hd : 0 < d) (ha : a < 5) (hb : b < 5) (hc : c < 5) (h : K (nI (g_box a b c)) M) : q_Ci X d 84 [.int (nI a), .int (nI b), .int (nI c)] M K := by
  have hok : y_ok a b c = true := by
    rcases y_all a ha b hb c hc with e | e
    · subst e; exact y_all0 a ha b hb
    · exact e
  unfold y_ok at hok
  have hx : (x_out b c a 1 (1, 1)).1 < 2 ^ 63 ∧ (x_out b c a 1 (1, 1)).2 < 2 ^ 63 ∧ 0 < (x_out b c a 1 (1, 1)).2 := by
    split at hok
    · cases hok
    · simp only [Bool.and_eq_true, decide_eq_true_eq] at hok
      exact ⟨hok.1.1.1.2, hok.1.1.2, hok.1.2⟩
  refine vc84 ?_
  have inner : ∀ (i : Nat), 1 ≤ i → i < 6 → ∀ (k j : Nat) (s : Nat × Nat), 1 ≤ j → j + k = b + 1 → q_Ex X d 84 8 [some (.int (nI a)), some (.int (nI b)), some (.int (nI c)), some (.long (lN (x_in i c k j s).1)), none, some (.long (lN (x_in i c k j s).2)), none, some (.int (nI (i + 1))), none] [] M (q_ri K) → q_Ex X d 84 17 [some (.int (nI a)), some (.int (nI b)), some (.int (nI c)), some (.long (lN s.1)), none, some (.long (lN s.2)), none, some (.int (nI i)), some (.int (nI j))] [] M (q_ri K) := by
    intro i hi1 hi k
    induction k with
    | zero =>
      intro j s hj hjk hK
      refine vc84_p17 ⟨fun _ => ?_, fun g => absurd ((q_lt (by omega) (by omega)).mpr (by omega)) g⟩
      rw [nI_1]
      exact hK
    | succ k ih =>
      intro j s hj hjk hK
      refine vc84_p17 ⟨fun g => absurd ((q_lt (by omega) (by omega)).mp g) (by omega), fun _ => ?_⟩
      rw [nI_add, nI_add, show nI (i + j + c) - 1 = nI (i + j + c - 1) from pk_sub (a := i + j + c) (b := 1) (by omega), show nI (i + j) - 1 = nI (i + j - 1) from pk_sub (a := i + j) (b := 1) (by omega), nI_l (by omega), nI_l (by omega), lN_mul, lN_mul, nI_1]
      exact ih (j + 1) (s.1 * (i + j + c - 1), s.2 * (i + j - 1)) (by omega) (by omega) hK
  have outer : ∀ (k i : Nat) (s : Nat × Nat), 1 ≤ i → i + k = a + 1 → x_out b c k i s = x_out b c a 1 (1, 1) → q_Ex X d 84 8 [some (.int (nI a)), some (.int (nI b)), some (.int (nI c)), some (.long (lN s.1)), none, some (.long (lN s.2)), none, some (.int (nI i)), none] [] M (q_ri K) := by
    intro k
    induction k with
    | zero =>
      intro i s hi hik he
      have he' : s = x_out b c a 1 (1, 1) := he
      rw [← he'] at hx
      obtain ⟨x1, x2, x3⟩ := hx
      refine vc84_p8 ⟨fun _ => ⟨fun _ => ⟨fun q => ?_, ?_⟩, fun g => absurd ?_ g⟩, fun g => absurd ((q_lt (by omega) (by omega)).mpr (by omega)) g⟩
      · have := (pk_lEQ (b := 0) x2 (by decide)).mp q
        omega
      · rw [pk_lDiv x1 x3 x2, lN_i]
        unfold g_box at h
        rw [← he'] at h
        exact h
      · unfold lg_cmp
        have e1 : (1 : Int64) = lN 1 := rfl
        rw [e1]
        split
        · decide
        · next g1 =>
          split
          · decide
          · next g2 =>
            exfalso
            have a1 : ¬ 1 < s.2 := fun q => g1 ((pk_lLT (by decide) x2).mpr q)
            exact g2 ((pk_lEQ x2 (by decide)).mpr (by omega))
    | succ k ih =>
      intro i s hi hik he
      refine vc84_p8 ⟨fun g => absurd ((q_lt (by omega) (by omega)).mp g) (by omega), fun _ => ?_⟩
      exact inner i hi (by omega) b 1 s (by decide) (by omega) (ih (i + 1) _ (by omega) (by omega) he)
  exact outer a 1 (1, 1) (by decide) (by omega) rfl
theorem r_boxes {d a b c : Nat} {M : q_M} {K : Int32 → q_M → Prop} (hd : 70 ≤ d) (ha : a < 5) (hb : b < 5) (hc : c < 5) (h : K (nI (g_box a b c)) M) : q_Ci X d 146 [.int (nI a), .int (nI b), .int (nI c)] M K := by
  have hok : y_ok a b c = true := by
    rcases y_all a ha b hb c hc with e | e
    · subst e; exact y_all0 a ha b hb
    · exact e
  unfold y_ok at hok
  obtain ⟨t0, ht0, p1, p2, p3, p4⟩ : ∃ t, y_out b c a 1 (1, 1) = some t ∧ 0 < t.2 ∧ t.2 < 2 ^ 31 ∧ t.1 < 2 ^ 31 ∧ t.1 / t.2 = g_box a b c := by
    cases hy : y_out b c a 1 (1, 1) with
    | none => rw [hy] at hok; cases hok
    | some t =>
      rw [hy] at hok
      simp only [Bool.and_eq_true, decide_eq_true_eq] at hok
      exact ⟨t, rfl, hok.1.1.1.1.1.1, hok.1.1.1.1.1.2, hok.1.1.1.1.2, hok.2⟩
  refine vc146 ?_
  have inner : ∀ (i : Nat), 1 ≤ i → i < 6 → ∀ (k j : Nat) (s t : Nat × Nat), 1 ≤ j → j + k = b + 1 → y_in i c k j s = some t → q_Ex X d 146 8 [some (.int (nI a)), some (.int (nI b)), some (.int (nI c)), some (.int (nI t.1)), some (.int (nI t.2)), some (.int (nI (i + 1))), none, none] [] M (q_ri K) → q_Ex X d 146 17 [some (.int (nI a)), some (.int (nI b)), some (.int (nI c)), some (.int (nI s.1)), some (.int (nI s.2)), some (.int (nI i)), some (.int (nI j)), none] [] M (q_ri K) := by
    intro i hi1 hi k
    induction k with
    | zero =>
      intro j s t hj hjk he hK
      have he' : s = t := Option.some.inj he
      subst he'
      refine vc146_p17 (by omega) ⟨fun _ => ?_, fun g => absurd ((q_lt (by omega) (by omega)).mpr (by omega)) g⟩
      rw [nI_1]
      exact hK
    | succ k ih =>
      intro j s t hj hjk he hK
      unfold y_in at he
      split at he
      · next hc4 =>
        obtain ⟨c1, c2, c3, c4⟩ := hc4
        refine vc146_p17 (by omega) ⟨fun g => absurd ((q_lt (by omega) (by omega)).mp g) (by omega), fun _ => ?_⟩
        rw [nI_add, nI_add, show nI (i + j + c) - 1 = nI (i + j + c - 1) from pk_sub (a := i + j + c) (b := 1) (by omega), show nI (i + j) - 1 = nI (i + j - 1) from pk_sub (a := i + j) (b := 1) (by omega), pk_mul, pk_mul, nI_1]
        generalize s.1 * (i + j + c - 1) = A at *
        generalize s.2 * (i + j - 1) = B at *
        have hg := Nat.gcd_pos_of_pos_left B c1
        have hgl := Nat.gcd_le_left B c1
        refine r_common 31 A B (d - 1) _ c4 c2 c4 (by omega) ?_
        have hne : ¬ nI (Nat.gcd A B) = 0 := fun q => by have := (q_eq (b := 0) (by omega) (by decide)).mp q; omega
        rw [pk_div c2 hg (by omega), pk_div c4 hg (by omega)]
        exact ⟨hne, hne, ih (j + 1) _ t (by omega) (by omega) he hK⟩
      · cases he
  have outer : ∀ (k i : Nat) (s : Nat × Nat), 1 ≤ i → i + k = a + 1 → y_out b c k i s = some t0 → q_Ex X d 146 8 [some (.int (nI a)), some (.int (nI b)), some (.int (nI c)), some (.int (nI s.1)), some (.int (nI s.2)), some (.int (nI i)), none, none] [] M (q_ri K) := by
    intro k
    induction k with
    | zero =>
      intro i s hi hik he
      have he' : s = t0 := Option.some.inj he
      subst he'
      refine vc146_p8 ⟨fun _ => ⟨fun q => ?_, ?_⟩, fun g => absurd ((q_lt (by omega) (by omega)).mpr (by omega)) g⟩
      · have := (q_eq (b := 0) p2 (by decide)).mp q
        omega
      · rw [pk_div p3 p1 p2, p4]; exact h
    | succ k ih =>
      intro i s hi hik he
      refine vc146_p8 ⟨fun g => absurd ((q_lt (by omega) (by omega)).mp g) (by omega), fun _ => ?_⟩
      unfold y_out at he
      cases hy : y_in i c b 1 s with
      | none => rw [hy] at he; cases he
      | some t =>
        rw [hy] at he
        exact inner i hi (by omega) b 1 s t (by decide) (by omega) hy (ih (i + 1) t (by omega) (by omega) he)
  exact outer a 1 (1, 1) (by decide) (by omega) ht0
end Used
