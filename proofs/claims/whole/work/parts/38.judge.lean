/-! told ways looked at -/
def j_run (nx : Nat → Nat → Option Nat) (st : Nat → Nat) : Nat → Nat → Nat → Nat → Nat ⊕ (Nat × Nat)
  | 0, _, c, b => .inr (c, b)
  | j + 1, i, c, b => match nx c (st i) with
    | none => .inl i
    | some t => j_run nx st j (i + 1) t (b ||| 2 ^ t)
def j_off (J : Nat → Nat ⊕ (Nat × Nat)) : Nat → Nat → Option Nat
  | 0, _ => none
  | k + 1, d => match J d with
    | .inl i => some (20 * d + i)
    | .inr _ => j_off J k (d + 1)
def j_ast (ok : Nat → Bool) : Nat → Nat → Option Nat
  | 0, _ => none
  | k + 1, d => if ok d then j_ast ok k (d + 1) else some d
def j_e (J : Nat → Nat ⊕ (Nat × Nat)) (d : Nat) : Nat := match J d with
  | .inl _ => 0
  | .inr x => x.1
def j_b (J : Nat → Nat ⊕ (Nat × Nat)) (d : Nat) : Nat := match J d with
  | .inl _ => 0
  | .inr x => x.2
def j_sh (J : Nat → Nat ⊕ (Nat × Nat)) : Nat → Nat → Nat → Nat → Nat
  | 0, _, _, sh => sh
  | k + 1, d, on, sh => j_sh J k (d + 1) (on ||| j_b J d) (sh ||| (on &&& j_b J d))
def n_low (sh : Nat) : Nat → Nat → Int32
  | 0, _ => -9
  | k + 1, i => if sh.testBit i then nI i else n_low sh k (i + 1)
def j_wk (w o n d v : Nat) : Bool := match l_wn w o n d with
  | none => true
  | some x => v == x
def j_okd (kd nu : Nat → Nat) (J : Nat → Nat ⊕ (Nat × Nat)) (w o n d : Nat) : Bool := kd (j_e J d) == 3 && j_wk w o n d (nu (j_e J d))
theorem j_run_s (nx : Nat → Nat → Option Nat) (st : Nat → Nat) (j i c b : Nat) : j_run nx st (j + 1) i c b = (match nx c (st i) with | none => .inl i | some t => j_run nx st j (i + 1) t (b ||| 2 ^ t)) := rfl
theorem j_off_s (J : Nat → Nat ⊕ (Nat × Nat)) (k d : Nat) : j_off J (k + 1) d = (match J d with | .inl i => some (20 * d + i) | .inr _ => j_off J k (d + 1)) := rfl
theorem j_ast_s (ok : Nat → Bool) (k d : Nat) : j_ast ok (k + 1) d = if ok d then j_ast ok k (d + 1) else some d := rfl
theorem j_sh_s (J : Nat → Nat ⊕ (Nat × Nat)) (k d on sh : Nat) : j_sh J (k + 1) d on sh = j_sh J k (d + 1) (on ||| j_b J d) (sh ||| (on &&& j_b J d)) := rfl
theorem n_low_s (sh k i : Nat) : n_low sh (k + 1) i = if sh.testBit i then nI i else n_low sh k (i + 1) := rfl
theorem l_mask_wk {w o n e v : Nat} (hv : v < n) : (l_mask w o n e).testBit v = j_wk w o n e v := l_mask_tb hv
def j_ans (N n : Nat) (kd nu : Nat → Nat) (J : Nat → Nat ⊕ (Nat × Nat)) (w o : Nat) : Int32 := match j_off J n 0 with
  | some x => nI (1000 + x)
  | none => match j_ast (j_okd kd nu J w o n) n 0 with
    | some x => nI (100 + x)
    | none => n_low (j_sh J n 0 0 0) N 0
theorem j_off_none {J : Nat → Nat ⊕ (Nat × Nat)} : ∀ (k d : Nat), j_off J k d = none → ∀ e, d ≤ e → e < d + k → ∃ x, J e = .inr x := by
  intro k
  induction k with
  | zero => intro d _ e h1 h2; omega
  | succ k ih =>
    intro d h e h1 h2
    unfold j_off at h
    cases hj : J d with
    | inl i => rw [hj] at h; cases h
    | inr x =>
      rw [hj] at h
      by_cases q : e = d
      · subst q; exact ⟨x, hj⟩
      · exact ih (d + 1) h e (by omega) (by omega)
/-- the told ways of a board -/
abbrev j_J (R C : Nat) (kd dc : Nat → Nat) (ln : Nat → Nat) (st : Nat → Nat → Nat) : Nat → Nat ⊕ (Nat × Nat) := fun d => j_run (g_nx R C kd) (st d) (ln d) 0 (dc d) (2 ^ dc d)
theorem j_run_ok {R C : Nat} {kd st : Nat → Nat} (hC : 0 < C) (hN : R * C ≤ 30) : ∀ (k i c b : Nat), c < R * C → b < 2 ^ 30 → (∀ x, b.testBit x = true → x < R * C) → ∀ e b', j_run (g_nx R C kd) st k i c b = .inr (e, b') → e < R * C ∧ b' < 2 ^ 30 ∧ ∀ x, b'.testBit x = true → x < R * C := by
  intro k
  induction k with
  | zero => intro i c b hc hb hx e b' h; cases h; exact ⟨hc, hb, hx⟩
  | succ k ih =>
    intro i c b hc hb hx e b' h
    unfold j_run at h
    cases hn : g_nx R C kd c (st i) with
    | none => rw [hn] at h; cases h
    | some t =>
      rw [hn] at h
      have ht := (g_nx_far hC hc hn).1
      refine ih (i + 1) t _ ht (Nat.or_lt_two_pow hb (Nat.pow_lt_pow_right (by decide) (by omega))) (fun x hx2 => ?_) e b' h
      rw [Nat.testBit_or, Nat.testBit_two_pow, Bool.or_eq_true, decide_eq_true_eq] at hx2
      rcases hx2 with q | q
      · exact hx x q
      · omega
theorem j_J_ok {R C n : Nat} {kd nu dc wc ln : Nat → Nat} {st : Nat → Nat → Nat} (hw : r_wf R C n kd nu dc wc) {d : Nat} (hd : d < n) {e b : Nat} (h : j_J R C kd dc ln st d = .inr (e, b)) : e < R * C ∧ b < 2 ^ 30 ∧ ∀ x, b.testBit x = true → x < R * C := by
  have hdc := (hw.2.2.2.2.2.1 d hd).1
  obtain ⟨hR2, hC2⟩ := r_Cpos hw hdc
  have hRC := r_RC hw
  refine j_run_ok (by omega) hRC (ln d) 0 (dc d) (2 ^ dc d) hdc (Nat.pow_lt_pow_right (by decide) (by omega)) (fun x hx => ?_) e b h
  rw [Nat.testBit_two_pow, decide_eq_true_eq] at hx
  omega
section Judge
variable {X : Nat × (Nat → Int32)} {R C n : Nat} {kd co nu dc wc ln : Nat → Nat} {st : Nat → Nat → Nat}
/-- told ways in the class -/
def c_tw (M : q_M) (ln : Nat → Nat) (st : Nat → Nat → Nat) : Prop := ∀ d, d < 3 → M 19 d = nI (ln d) ∧ ln d ≤ 10 ∧ ∀ j, j < ln d → M (21 + d) j = nI (st d j) ∧ st d j < 2
def r_tw (M : q_M) (ln : Nat → Nat) (st : Nat → Nat → Nat) : Prop := ∀ d, d < 3 → M 99 (12 + d) = nI (ln d) ∧ ln d ≤ 10 ∧ ∀ j, j < ln d → M 99 (15 + 10 * d + j) = nI (st d j) ∧ st d j < 2
theorem c_firstStepOff (hw : b_wf R C n kd co nu dc wc) {d : Nat} {M : q_M} {K : Int32 → q_M → Prop} (hd : 3 ≤ d) (hb : b_now M R C n kd co nu dc wc) (ht : c_tw M ln st) (h1 : ∀ x, j_off (j_J R C kd dc ln st) n 0 = some x → x < 100 → K (nI x) M) (h2 : j_off (j_J R C kd dc ln st) n 0 = none → K (-1) M) : q_Ci X d 7 [.ref 10] M K := by
  have hn3 := hw.2.2.1
  refine vc7 ?_
  have loop : ∀ (k e : Nat), e + k = n → j_off (j_J R C kd dc ln st) k e = j_off (j_J R C kd dc ln st) n 0 → q_Ex X d 7 2 [some (.ref 10), some (.int (nI e)), none, none] [] M (q_ri K) := by
    intro k
    induction k with
    | zero =>
      intro e he hj
      exact vc7_p2 (by omega) ⟨fun _ => h2 hj.symm, fun g => absurd (by rw [hb.2.2.2.2.1, q_le (by omega) (by omega)]; omega) g⟩
    | succ k ih =>
      intro e he hj
      obtain ⟨t1, t2, t3⟩ := ht e (by omega)
      obtain ⟨hde, -, -⟩ := hw.2.2.2.2.2.1 e (by omega)
      obtain ⟨hR2, hC2⟩ := b_Cpos hw hde
      rw [j_off_s] at hj
      refine vc7_p2 (by omega) ⟨fun g => ?_, fun _ => c_cellOfDoor hw (by omega) hb (by omega) ?_⟩
      · rw [hb.2.2.2.2.1, q_le (by omega) (by omega)] at g; omega
      have inner : ∀ (j i c b : Nat), i + j = ln e → c < R * C → j_J R C kd dc ln st e = j_run (g_nx R C kd) (st e) j i c b → q_Ex X d 7 24 [some (.ref 10), some (.int (nI e)), some (.int (nI c)), some (.int (nI i))] [] M (q_ri K) := by
        intro j
        induction j with
        | zero =>
          intro i c b hi hc hJ
          refine vc7_p24 (by omega) ⟨q_vi (by omega) (by decide), fun _ => ?_, fun g => absurd (by rw [q_cn (by omega), t1, q_le (by omega) (by omega)]; omega) g⟩
          rw [nI_1]
          rw [hJ] at hj
          exact ih (e + 1) (by omega) hj
        | succ j ihj =>
          intro i c b hi hc hJ
          obtain ⟨s1, s2⟩ := t3 i (by omega)
          refine vc7_p24 (by omega) ⟨q_vi (by omega) (by decide), fun g => ?_, fun _ => ⟨q_vi (by omega) (by decide), q_vi (by omega) (by decide), ?_⟩⟩
          · rw [q_cn (by omega), t1, q_le (by omega) (by omega)] at g; omega
          · rw [q_cn (by omega), q_cn (by omega), s1]
            refine c_onward hw (by omega) hb hc s2 ?_
            rw [show (20 : Int32) * nI e = nI (20 * e) from pk_mul 20 e, nI_add, nI_1]
            rw [j_run_s] at hJ
            cases hn : g_nx R C kd c (st e i) with
            | none =>
              rw [hn] at hJ
              rw [hJ] at hj
              exact ⟨fun g => absurd g (by decide), fun _ => h1 _ hj.symm (by omega)⟩
            | some t =>
              rw [hn] at hJ
              have ht2 := (g_nx_far (by omega) hc hn).1
              have hRC := b_RC hw
              rw [show g_oi (some t) = nI t from rfl]
              exact ⟨fun _ => ihj (i + 1) t _ (by omega) ht2 hJ, fun g => absurd (q_0le (by omega)) g⟩
      exact inner (ln e) 0 (dc e) (2 ^ dc e) (by omega) hde rfl
  exact loop n 0 (by omega) rfl
theorem c_endOfTold (hw : b_wf R C n kd co nu dc wc) {d e x b : Nat} {M : q_M} {K : Int32 → q_M → Prop} (hd : 3 ≤ d) (hb : b_now M R C n kd co nu dc wc) (ht : c_tw M ln st) (he : e < n) (hJ : j_J R C kd dc ln st e = .inr (x, b)) (h : K (nI x) M) : q_Ci X d 8 [.ref 10, .int (nI e)] M K := by
  have hn3 := hw.2.2.1
  obtain ⟨t1, t2, t3⟩ := ht e (by omega)
  obtain ⟨hde, -, -⟩ := hw.2.2.2.2.2.1 e he
  obtain ⟨hR2, hC2⟩ := b_Cpos hw hde
  refine vc8 (by omega) (c_cellOfDoor hw (by omega) hb he ?_)
  have inner : ∀ (j i c b' : Nat), i + j = ln e → c < R * C → j_run (g_nx R C kd) (st e) j i c b' = .inr (x, b) → q_Ex X d 8 11 [some (.ref 10), some (.int (nI e)), some (.int (nI c)), some (.int (nI i))] [] M (q_ri K) := by
    intro j
    induction j with
    | zero =>
      intro i c b' hi hc hJ
      cases hJ
      exact vc8_p11 (by omega) ⟨q_vi (by omega) (by decide), fun _ => h, fun g => absurd (by rw [q_cn (by omega), t1, q_le (by omega) (by omega)]; omega) g⟩
    | succ j ihj =>
      intro i c b' hi hc hJ
      obtain ⟨s1, s2⟩ := t3 i (by omega)
      refine vc8_p11 (by omega) ⟨q_vi (by omega) (by decide), fun g => ?_, fun _ => ⟨q_vi (by omega) (by decide), q_vi (by omega) (by decide), ?_⟩⟩
      · rw [q_cn (by omega), t1, q_le (by omega) (by omega)] at g; omega
      · rw [q_cn (by omega), q_cn (by omega), s1]
        refine c_onward hw (by omega) hb hc s2 ?_
        rw [nI_1]
        rw [j_run_s] at hJ
        cases hn : g_nx R C kd c (st e i) with
        | none => rw [hn] at hJ; cases hJ
        | some t =>
          rw [hn] at hJ
          exact ihj (i + 1) t _ (by omega) (g_nx_far (by omega) hc hn).1 hJ
  exact inner (ln e) 0 (dc e) (2 ^ dc e) (by omega) hde hJ
theorem c_cellsOfTold (hw : b_wf R C n kd co nu dc wc) {d e x b : Nat} {M : q_M} {K : Int32 → q_M → Prop} (hd : 3 ≤ d) (hb : b_now M R C n kd co nu dc wc) (ht : c_tw M ln st) (he : e < n) (hJ : j_J R C kd dc ln st e = .inr (x, b)) (h : K (nI b) M) : q_Ci X d 9 [.ref 10, .int (nI e)] M K := by
  have hn3 := hw.2.2.1
  have hRC := b_RC hw
  obtain ⟨t1, t2, t3⟩ := ht e (by omega)
  obtain ⟨hde, -, -⟩ := hw.2.2.2.2.2.1 e he
  obtain ⟨hR2, hC2⟩ := b_Cpos hw hde
  refine vc9 (by omega) (c_cellOfDoor hw (by omega) hb he ?_)
  rw [n_sh _ (by omega)]
  have inner : ∀ (j i c b' : Nat), i + j = ln e → c < R * C → j_run (g_nx R C kd) (st e) j i c b' = .inr (x, b) → q_Ex X d 9 16 [some (.ref 10), some (.int (nI e)), some (.int (nI c)), some (.int (nI b')), some (.int (nI i))] [] M (q_ri K) := by
    intro j
    induction j with
    | zero =>
      intro i c b' hi hc hJ
      cases hJ
      exact vc9_p16 (by omega) ⟨q_vi (by omega) (by decide), fun _ => h, fun g => absurd (by rw [q_cn (by omega), t1, q_le (by omega) (by omega)]; omega) g⟩
    | succ j ihj =>
      intro i c b' hi hc hJ
      obtain ⟨s1, s2⟩ := t3 i (by omega)
      refine vc9_p16 (by omega) ⟨q_vi (by omega) (by decide), fun g => ?_, fun _ => ⟨fun g => absurd g (q_nlt0 (by omega)), fun _ => ⟨q_vi (by omega) (by decide), q_vi (by omega) (by decide), ?_⟩⟩⟩
      · rw [q_cn (by omega), t1, q_le (by omega) (by omega)] at g; omega
      · rw [q_cn (by omega), q_cn (by omega), s1]
        refine c_onward hw (by omega) hb hc s2 ?_
        rw [nI_1]
        rw [j_run_s] at hJ
        cases hn : g_nx R C kd c (st e i) with
        | none => rw [hn] at hJ; cases hJ
        | some t =>
          rw [hn] at hJ
          have ht2 := (g_nx_far (by omega) hc hn).1
          rw [show g_oi (some t) = nI t from rfl, n_sh t (by omega), n_or]
          exact ⟨fun g => absurd g (q_nlt0 (by omega)), fun _ => ihj (i + 1) t _ (by omega) ht2 hJ⟩
  exact inner (ln e) 0 (dc e) (2 ^ dc e) (by omega) hde hJ
theorem c_leastShared (hw : b_wf R C n kd co nu dc wc) {d : Nat} {M : q_M} {K : Int32 → q_M → Prop} (hd : 4 ≤ d) (hb : b_now M R C n kd co nu dc wc) (ht : c_tw M ln st) (hno : j_off (j_J R C kd dc ln st) n 0 = none) (h : K (n_low (j_sh (j_J R C kd dc ln st) n 0 0 0) (R * C) 0) M) : q_Ci X d 10 [.ref 10] M K := by
  have hn3 := hw.2.2.1
  have hRC := b_RC hw
  refine vc10 ?_
  have low : ∀ (k i sh : Nat), i + k = R * C → sh < 2 ^ 30 → K (n_low sh k i) M → q_Ex X d 10 44 [some (.ref 10), none, some (.int (nI sh)), some (.int (nI i)), none] [] M (q_ri K) := by
    intro k
    induction k with
    | zero =>
      intro i sh hi hsh hK
      exact vc10_p44 (by omega) ⟨fun _ => hK, fun g => absurd (by rw [hb.2.2.1, q_le (by omega) (by omega)]; omega) g⟩
    | succ k ih =>
      intro i sh hi hsh hK
      rw [n_low_s] at hK
      refine vc10_p44 (by omega) ⟨fun g => ?_, fun _ => ?_⟩
      · rw [hb.2.2.1, q_le (by omega) (by omega)] at g; omega
      · rw [nI_1]
        refine c_isIn (by omega) (by omega) (fun _ hbt => ⟨fun g => absurd g (by decide), fun _ => ?_⟩) (fun hbt => ⟨fun _ => ?_, fun g => absurd rfl g⟩)
        · rw [if_pos hbt] at hK; exact hK
        · rw [if_neg (by rw [hbt (by omega)]; decide)] at hK
          exact ih (i + 1) sh (by omega) hsh hK
  have loop : ∀ (k e on sh : Nat), e + k = n → on < 2 ^ 30 → sh < 2 ^ 30 → K (n_low (j_sh (j_J R C kd dc ln st) k e on sh) (R * C) 0) M → q_Ex X d 10 6 [some (.ref 10), some (.int (nI on)), some (.int (nI sh)), some (.int (nI e)), none] [] M (q_ri K) := by
    intro k
    induction k with
    | zero =>
      intro e on sh he hon hsh hK
      exact vc10_p6 (by omega) ⟨fun _ => low (R * C) 0 sh (by omega) hsh hK, fun g => absurd (by rw [hb.2.2.2.2.1, q_le (by omega) (by omega)]; omega) g⟩
    | succ k ih =>
      intro e on sh he hon hsh hK
      obtain ⟨⟨x, b⟩, hJ⟩ := j_off_none n 0 hno e (by omega) (by omega)
      have hbb : j_b (j_J R C kd dc ln st) e = b := by unfold j_b; rw [hJ]
      rw [j_sh_s] at hK
      rw [hbb] at hK
      have hb30 := (j_J_ok hw.r (show e < n by omega) hJ).2.1
      refine vc10_p6 (by omega) ⟨fun g => ?_, fun _ => ?_⟩
      · rw [hb.2.2.2.2.1, q_le (by omega) (by omega)] at g; omega
      · refine c_cellsOfTold hw (by omega) hb ht (by omega) hJ ?_
        rw [n_or, n_and, n_or, nI_1]
        exact ih (e + 1) _ _ (by omega) (Nat.or_lt_two_pow hon hb30) (Nat.or_lt_two_pow hsh (Nat.lt_of_le_of_lt Nat.and_le_left hon)) hK
  exact loop n 0 0 0 (by omega) (by decide) (by decide) h
theorem c_firstAstray (hw : b_wf R C n kd co nu dc wc) {d w o : Nat} {M : q_M} {K : Int32 → q_M → Prop} (hd : 6 ≤ d) (hb : b_now M R C n kd co nu dc wc) (hl : c_lw M n w o) (ht : c_tw M ln st) (hno : j_off (j_J R C kd dc ln st) n 0 = none) (h1 : ∀ x, j_ast (j_okd kd nu (j_J R C kd dc ln st) w o n) n 0 = some x → x < 3 → K (nI x) M) (h2 : j_ast (j_okd kd nu (j_J R C kd dc ln st) w o n) n 0 = none → K (-1) M) : q_Ci X d 81 [.ref 0] M K := by
  have hn3 := hw.2.2.1
  have hRC := b_RC hw
  obtain ⟨l1, l2, l3, l4, l5⟩ := hl
  refine vc81 ?_
  rw [hb.2.2.2.2.1]
  have loop : ∀ (k e : Nat), e + k = n → j_ast (j_okd kd nu (j_J R C kd dc ln st) w o n) k e = j_ast (j_okd kd nu (j_J R C kd dc ln st) w o n) n 0 → q_Ex X d 81 13 [some (.ref 0), some (.int (nI n)), some (.int (nI e)), none, none] [] M (q_ri K) := by
    intro k
    induction k with
    | zero =>
      intro e he hj
      exact vc81_p13 (by omega) ⟨fun _ => h2 hj.symm, fun g => absurd ((q_le (by omega) (by omega)).mpr (by omega)) g⟩
    | succ k ih =>
      intro e he hj
      obtain ⟨⟨x, b⟩, hJ⟩ := j_off_none n 0 hno e (by omega) (by omega)
      obtain ⟨hx, -, -⟩ := j_J_ok hw.r (show e < n by omega) hJ
      have hee : j_e (j_J R C kd dc ln st) e = x := by unfold j_e; rw [hJ]
      rw [j_ast_s] at hj
      have hok : j_okd kd nu (j_J R C kd dc ln st) w o n e = (kd x == 3 && j_wk w o n e (nu x)) := by unfold j_okd; rw [hee]
      rw [hok] at hj
      obtain ⟨hkx, -, hnx⟩ := hb.2.2.2.2.2.1 x hx
      have hk3 := hw.2.2.2.2.1 x hx
      refine vc81_p13 (by omega) ⟨fun g => absurd ((q_le (by omega) (by omega)).mp g) (by omega), fun _ => ?_⟩
      refine c_endOfTold hw (by omega) hb ht (by omega) hJ ?_
      refine c_hasCell hb.2.2.1 (by omega) (fun j hj2 ej => ⟨fun g => absurd g (by decide), fun _ => ⟨q_vi (by omega) (by decide), ?_⟩⟩) (fun g => absurd rfl (g x hx))
      rw [q_cn (by omega), hkx]
      refine ⟨fun g => ?_, fun g => ?_⟩
      · have k3 : kd x = 3 := (q_eq (b := 3) (by omega) (by decide)).mp g
        have hnn := hk3.2.2.2 (by omega)
        refine c_lawNow l1 l2 ?_
        rw [l3]
        refine c_wfV81 l2 (by omega) hn3 (by omega) (by omega) l5 ⟨q_vi (by omega) (by decide), ?_⟩
        have hmk := l_mask_lt (w := w) hn3 l5 (show e < n by omega)
        unfold g_numb at hnx
        rw [if_neg (by omega)] at hnx
        rw [hnx, n_bit0 (by omega) (by omega), l_mask_wk hnn, nI_1]
        have eq3 : (kd x == 3) = true := by rw [k3]; rfl
        rw [eq3, Bool.true_and] at hj
        cases hb2 : j_wk w o n e (nu x) with
        | true =>
          rw [hb2] at hj
          exact ⟨fun _ => ih (e + 1) (by omega) hj, fun g => absurd g (by decide)⟩
        | false =>
          rw [hb2] at hj
          exact ⟨fun g => absurd rfl g, fun _ => h1 e hj.symm (by omega)⟩
      · have k3 : kd x ≠ 3 := fun q => g (by rw [q]; rfl)
        have eq3 : (kd x == 3) = false := by simpa using k3
        rw [eq3, Bool.false_and] at hj
        exact h1 e hj.symm (by omega)
  exact loop n 0 (by omega) rfl
theorem c_judgeIn (hw : b_wf R C n kd co nu dc wc) {d w o : Nat} {M : q_M} {K : Int32 → q_M → Prop} (hd : 7 ≤ d) (hb : b_now M R C n kd co nu dc wc) (hl : c_lw M n w o) (ht : c_tw M ln st) (h : K (j_ans (R * C) n kd nu (j_J R C kd dc ln st) w o) M) : q_Ci X (d - 1) 7 [.ref 10] M (fun r5 M4 => ((r5 < 0) → (q_Ci X (d - 1) 81 [.ref 0] M4 (fun r8 M7 => ((r8 < 0) → (q_Ci X (d - 1) 10 [.ref 10] M7 (fun r11 M10 => K r11 M10))) ∧ ((¬ r8 < 0) → (K ((100 : Int32) + r8) M7))))) ∧ ((¬ r5 < 0) → (K ((1000 : Int32) + r5) M4))) := by
  unfold j_ans at h
  refine c_firstStepOff hw (by omega) hb ht (fun x hx hx2 => ⟨fun g => absurd g (q_nlt0 (by omega)), fun _ => ?_⟩) (fun hno => ⟨fun _ => ?_, fun g => absurd (show (-1 : Int32) < 0 by decide) g⟩)
  · rw [hx] at h
    rw [show (1000 : Int32) + nI x = nI (1000 + x) from nI_add 1000 x]
    exact h
  · rw [hno] at h
    refine c_firstAstray hw (by omega) hb hl ht hno (fun x hx hx2 => ⟨fun g => absurd g (q_nlt0 (by omega)), fun _ => ?_⟩) (fun hna => ⟨fun _ => ?_, fun g => absurd (show (-1 : Int32) < 0 by decide) g⟩)
    · rw [hx] at h
      rw [show (100 : Int32) + nI x = nI (100 + x) from nI_add 100 x]
      exact h
    · rw [hna] at h
      exact c_leastShared hw (by omega) hb ht hno h
theorem r_walks (hw : r_wf R C n kd nu dc wc) {d e : Nat} {M : q_M} {K : Int32 → q_M → Prop} (hd : 3 ≤ d) (hb : r_b M R C n kd co nu) (ht : r_tw M ln st) (he : e < n) (h1 : ∀ i, j_J R C kd dc ln st e = .inl i → i < 10 → K (nI i) M) (h2 : ∀ x b, j_J R C kd dc ln st e = .inr (x, b) → K (-9) (q_set (q_set M 115 e (nI x)) 97 27 (nI b))) : q_Ci X d 149 [.ref 97, .int (nI e)] M K := by
  have hn3 := hw.2.2.1
  have hRC := r_RC hw
  obtain ⟨t1, t2, t3⟩ := ht e (by omega)
  obtain ⟨hde, -, -⟩ := hw.2.2.2.2.2.1 e he
  obtain ⟨hR2, hC2⟩ := r_Cpos hw hde
  refine vc149 (by omega) (r_cellOfD hw (by omega) hb he ?_)
  rw [n_sh _ (by omega)]
  have inner : ∀ (j i c b' : Nat), i + j = ln e → c < R * C → j_J R C kd dc ln st e = j_run (g_nx R C kd) (st e) j i c b' → q_Ex X d 149 14 [some (.ref 97), some (.int (nI e)), some (.int (nI c)), some (.int (nI b')), some (.int (nI i))] [] M (q_ri K) := by
    intro j
    induction j with
    | zero =>
      intro i c b' hi hc hJ
      refine vc149_p14 (by omega) ?_
      rw [show (12 : Int32) + nI e = nI (12 + e) from nI_add 12 e, q_cn (by omega), q_cn (by omega), t1, q_le (by omega) (by omega)]
      exact ⟨q_vi (by omega) (by decide), fun _ => ⟨q_vi (by omega) (by decide), h2 c b' hJ⟩, fun g => absurd (by omega) g⟩
    | succ j ihj =>
      intro i c b' hi hc hJ
      obtain ⟨s1, s2⟩ := t3 i (by omega)
      refine vc149_p14 (by omega) ?_
      rw [show (12 : Int32) + nI e = nI (12 + e) from nI_add 12 e, show (10 : Int32) * nI e = nI (10 * e) from pk_mul 10 e, show (15 : Int32) + nI (10 * e) = nI (15 + 10 * e) from nI_add 15 _, nI_add, q_cn (show 12 + e < 2 ^ 31 by omega), q_cn (show 15 + 10 * e + i < 2 ^ 31 by omega), t1, s1, q_le (by omega) (by omega), nI_1]
      refine ⟨q_vi (by omega) (by decide), fun g => absurd g (by omega), fun _ => ⟨q_vi (by omega) (by decide), ?_⟩⟩
      refine r_next hw (by omega) hb hc s2 ?_
      rw [j_run_s] at hJ
      cases hn : g_nx R C kd c (st e i) with
      | none =>
        rw [hn] at hJ
        exact ⟨fun g => absurd g (by decide), fun _ => h1 i hJ (by omega)⟩
      | some t =>
        rw [hn] at hJ
        have ht2 := (g_nx_far (by omega) hc hn).1
        rw [show g_oj (some t) = nI t from rfl, n_sh t (by omega), n_or]
        exact ⟨fun _ => ihj (i + 1) t _ (by omega) ht2 hJ, fun g => absurd (q_0le (by omega)) g⟩
  exact inner (ln e) 0 (dc e) (2 ^ dc e) (by omega) hde rfl
theorem r_judgeIn (hw : r_wf R C n kd nu dc wc) {d w o ks : Nat} {se : Nat → Nat} {M : q_M} {K : Int32 → q_M → Prop} (hd : 7 ≤ d) (hb : r_b M R C n kd co nu) (hs : r_st M (R * C) n w o ks se) (ht : r_tw M ln st) (h : ∀ M', r_fr M M' → K (j_ans (R * C) n kd nu (j_J R C kd dc ln st) w o) M') : q_Ex X d 150 20 [some (.ref 97), some (.int 0), some (.int 0), some (.int 0), none, none] [] M (q_ri K) := by
  have hn3 := hw.2.2.1
  have hRC := r_RC hw
  obtain ⟨s1, s2, s3, -, -, -⟩ := hs
  have hshb : ∀ (k e on sh : Nat), (∀ x, on.testBit x = true → x < R * C) → (∀ x, sh.testBit x = true → x < R * C) → e + k = n → j_off (j_J R C kd dc ln st) n 0 = none → (∀ x, (j_sh (j_J R C kd dc ln st) k e on sh).testBit x = true → x < R * C) := by
    intro k
    induction k with
    | zero => intro e on sh _ h2 _ _ x hx; exact h2 x hx
    | succ k ih =>
      intro e on sh h1 h2 he hno
      obtain ⟨⟨x, b⟩, hJ⟩ := j_off_none n 0 hno e (by omega) (by omega)
      have hbb : j_b (j_J R C kd dc ln st) e = b := by unfold j_b; rw [hJ]
      have hb3 := (j_J_ok hw (show e < n by omega) hJ).2.2
      rw [j_sh_s, hbb]
      refine ih (e + 1) _ _ (fun x hx => ?_) (fun x hx => ?_) (by omega) hno
      · rw [Nat.testBit_or, Bool.or_eq_true] at hx
        rcases hx with q | q
        · exact h1 x q
        · exact hb3 x q
      · rw [Nat.testBit_or, Nat.testBit_and, Bool.or_eq_true, Bool.and_eq_true] at hx
        rcases hx with q | q
        · exact h2 x q
        · exact h1 x q.1
  -- the least of what two have
  have low : ∀ (k i sh : Nat) (M1 : q_M), i + k = R * C → sh < 2 ^ 30 → (∃ x, i ≤ x ∧ x < R * C ∧ sh.testBit x = true) → K (n_low sh k i) M1 → q_Ex X d 150 167 [none, none, some (.int (nI sh)), some (.int (nI i)), none, none] [] M1 (q_ri K) := by
    intro k
    induction k with
    | zero => intro i sh M1 hi _ hx _; obtain ⟨x, x1, x2, x3⟩ := hx; omega
    | succ k ih =>
      intro i sh M1 hi hsh hx hK
      rw [n_low_s] at hK
      refine vc150_p167 ?_
      rw [n_bit0 (by omega) (by omega), nI_1]
      refine ⟨fun g => ?_, fun g => ?_⟩
      · have : sh.testBit i = true := by simpa using g
        rw [if_pos this] at hK; exact hK
      · rw [if_neg (by rw [g]; decide)] at hK
        obtain ⟨x, x1, x2, x3⟩ := hx
        refine ih (i + 1) sh M1 (by omega) hsh ⟨x, ?_, x2, x3⟩ hK
        have : x ≠ i := fun q => by subst q; rw [g] at x3; cases x3
        omega
  -- the ends
  have ends : ∀ (sh : Nat), sh < 2 ^ 30 → (∀ x, sh.testBit x = true → x < R * C) → j_off (j_J R C kd dc ln st) n 0 = none → ∀ (k e : Nat) (M1 : q_M), e + k = n → r_fr M M1 → (∀ x, x < n → M1 115 x = nI (j_e (j_J R C kd dc ln st) x)) → (∀ M', r_fr M M' → K (match j_ast (j_okd kd nu (j_J R C kd dc ln st) w o n) k e with | some x => nI (100 + x) | none => n_low sh (R * C) 0) M') → q_Ex X d 150 78 [some (.ref 97), none, some (.int (nI sh)), some (.int (nI e)), none, none] [] M1 (q_ri K) := by
    intro sh hsh hsx hno k
    induction k with
    | zero =>
      intro e M1 he f1 g1 hK
      refine vc150_p78 (by omega) ⟨fun _ => ?_, fun g => absurd (by rw [f1.1 99 (by omega), hb.2.2.1, q_le (by omega) (by omega)]; omega) g⟩
      have hK1 : K (n_low sh (R * C) 0) M1 := hK M1 f1
      rw [show (0 : Int32) = nI 0 from rfl, q_eq (by omega) (by decide)]
      refine ⟨fun g => low (R * C) 0 sh M1 (by omega) hsh ?_ hK1, fun g => ?_⟩
      · obtain ⟨x, hx⟩ := Nat.exists_testBit_of_ne_zero g
        exact ⟨x, Nat.zero_le x, hsx x hx, hx⟩
      · subst g
        have e0 : ∀ (k i : Nat), n_low 0 k i = -9 := by
          intro k
          induction k with
          | zero => intro i; rfl
          | succ k ih => intro i; rw [n_low, Nat.zero_testBit]; exact ih (i + 1)
        rw [e0] at hK1
        exact hK1
    | succ k ih =>
      intro e M1 he f1 g1 hK
      have e99 : M1 99 = M 99 := f1.1 99 (by omega)
      have hb1 : r_b M1 R C n kd co nu := hb.eq e99
      obtain ⟨⟨x, b⟩, hJ⟩ := j_off_none n 0 hno e (by omega) (by omega)
      obtain ⟨hx, -, -⟩ := j_J_ok hw (show e < n by omega) hJ
      have hee : j_e (j_J R C kd dc ln st) e = x := by unfold j_e; rw [hJ]
      have hok : j_okd kd nu (j_J R C kd dc ln st) w o n e = (kd x == 3 && j_wk w o n e (nu x)) := by unfold j_okd; rw [hee]
      rw [j_ast_s] at hK
      rw [hok] at hK
      have gx := g1 e (by omega)
      rw [hee] at gx
      have hk3 := hw.2.2.2.2.1 x hx
      refine vc150_p78 (by omega) ⟨fun g => ?_, fun _ => ?_⟩
      · rw [e99, hb.2.2.1, q_le (by omega) (by omega)] at g; omega
      · rw [e99, s1]
        refine r_wellBy (o := o) hb1.2.2.1 hn3 s2 (by omega) (by rw [e99]; exact (s3 e (by omega)).1) ⟨q_vi (by omega) (by decide), ?_⟩
        rw [q_cn (by omega), gx]
        refine r_what (by omega) ?_
        rw [(hb1.2.2.2 x hx).1, show (3 : Int32) = nI 3 from rfl, q_eq (by omega) (by decide), show (100 : Int32) + nI e = nI (100 + e) from nI_add 100 e, nI_1]
        refine ⟨fun g => ?_, fun g => ?_⟩
        · have eq3 : (kd x == 3) = false := by simpa using g
          rw [eq3, Bool.false_and] at hK
          exact hK M1 f1
        · have eq3 : (kd x == 3) = true := by rw [g]; rfl
          rw [eq3, Bool.true_and] at hK
          cases hl : l_wn w o n e with
          | none =>
            have hwk : j_wk w o n e (nu x) = true := by unfold j_wk; rw [hl]
            rw [hwk] at hK
            exact ⟨fun _ => ih (e + 1) M1 (by omega) f1 g1 hK, fun q => absurd (show g_oj none < 0 by decide) q⟩
          | some v =>
            have hv3 := l_wn_lt hn3 (fun d hd => (s3 d hd).2) (show e < n by omega) hl
            have hwk : j_wk w o n e (nu x) = (nu x == v) := by unfold j_wk; rw [hl]
            rw [hwk] at hK
            rw [show g_oj (some v) = nI v from rfl]
            refine ⟨fun q => absurd q (q_nlt0 (by omega)), fun _ => ⟨q_vi (by omega) (by decide), ?_⟩⟩
            rw [gx]
            refine r_number (by omega) ?_
            have hnn := hk3.2 (by omega)
            rw [(hb1.2.2.2 x hx).2.2 (by omega), q_eq (by omega) (by omega)]
            refine ⟨fun q => ?_, fun q => ?_⟩
            · have e2 : (nu x == v) = false := by simpa using q
              have hK' : ∀ M', r_fr M M' → K (match (if (nu x == v) = true then j_ast (j_okd kd nu (j_J R C kd dc ln st) w o n) k (e + 1) else some e) with | some x => nI (100 + x) | none => n_low sh (R * C) 0) M' := hK
              rw [e2] at hK'
              exact hK' M1 f1
            · have e2 : (nu x == v) = true := by rw [q]; simp
              have hK' : ∀ M', r_fr M M' → K (match (if (nu x == v) = true then j_ast (j_okd kd nu (j_J R C kd dc ln st) w o n) k (e + 1) else some e) with | some x => nI (100 + x) | none => n_low sh (R * C) 0) M' := hK
              rw [e2] at hK'
              exact ih (e + 1) M1 (by omega) f1 g1 hK'
  have loop : ∀ (k e on sh : Nat) (M1 : q_M), e + k = n → r_fr M M1 → on < 2 ^ 30 → sh < 2 ^ 30 → (∀ x, x < e → M1 115 x = nI (j_e (j_J R C kd dc ln st) x)) → j_off (j_J R C kd dc ln st) k e = j_off (j_J R C kd dc ln st) n 0 → (j_off (j_J R C kd dc ln st) n 0 = none → j_sh (j_J R C kd dc ln st) k e on sh = j_sh (j_J R C kd dc ln st) n 0 0 0) → q_Ex X d 150 20 [some (.ref 97), some (.int (nI on)), some (.int (nI sh)), some (.int (nI e)), none, none] [] M1 (q_ri K) := by
    intro k
    induction k with
    | zero =>
      intro e on sh M1 he f1 hon hsh g1 hoff hsh2
      refine vc150_p20 (by omega) ⟨fun _ => ?_, fun g => absurd (by rw [f1.1 99 (by omega), hb.2.2.1, q_le (by omega) (by omega)]; omega) g⟩
      have hno : j_off (j_J R C kd dc ln st) n 0 = none := hoff.symm
      have hs3 : sh = j_sh (j_J R C kd dc ln st) n 0 0 0 := hsh2 hno
      refine ends sh hsh (fun x hx => ?_) hno n 0 M1 (by omega) f1 (fun x hx => g1 x (by omega)) (fun M' a => ?_)
      · rw [hs3] at hx
        exact hshb n 0 0 0 (fun x hx => by simp at hx) (fun x hx => by simp at hx) (by omega) hno x hx
      · have := h M' a
        unfold j_ans at this
        rw [hno, ← hs3] at this
        exact this
    | succ k ih =>
      intro e on sh M1 he f1 hon hsh g1 hoff hsh2
      have e99 : M1 99 = M 99 := f1.1 99 (by omega)
      have ht1 : r_tw M1 ln st := by unfold r_tw at ht ⊢; rw [e99]; exact ht
      rw [j_off_s] at hoff
      refine vc150_p20 (by omega) ⟨fun g => ?_, fun _ => ?_⟩
      · rw [e99, hb.2.2.1, q_le (by omega) (by omega)] at g; omega
      · refine r_walks hw (by omega) (hb.eq e99) ht1 (by omega) (fun i hJ hi => ?_) (fun x b hJ => ?_)
        · rw [hJ] at hoff
          refine ⟨fun g => absurd g (q_nlt0 (by omega)), fun _ => ?_⟩
          have := h M1 f1
          unfold j_ans at this
          rw [← hoff] at this
          rw [show (20 : Int32) * nI e = nI (20 * e) from pk_mul 20 e, show (1000 : Int32) + nI (20 * e) = nI (1000 + 20 * e) from nI_add 1000 _, nI_add, Nat.add_assoc]
          exact this
        · rw [hJ] at hoff
          have hb30 := (j_J_ok hw (show e < n by omega) hJ).2.1
          have hbb : j_b (j_J R C kd dc ln st) e = b := by unfold j_b; rw [hJ]
          have hee : j_e (j_J R C kd dc ln st) e = x := by unfold j_e; rw [hJ]
          refine ⟨fun _ => ?_, fun g => absurd (show (-9 : Int32) < 0 by decide) g⟩
          rw [show (q_set (q_set M1 115 e (nI x)) 97 27 (nI b)) 97 27 = nI b from by rw [q_set_ap, if_pos ⟨rfl, rfl⟩], n_or, n_and, n_or, nI_1]
          refine ih (e + 1) _ _ _ (by omega) (f1.tr ⟨fun k hk => by rw [q_set_n (by omega), q_set_n (by omega)], by rw [q_set_ap, if_neg (by omega), q_set_n (by decide)], by rw [q_set_ap, if_neg (by omega), q_set_n (by decide)]⟩) (Nat.or_lt_two_pow hon hb30) (Nat.or_lt_two_pow hsh (Nat.lt_of_le_of_lt Nat.and_le_left hon)) (fun y hy => ?_) hoff (fun hno => ?_)
          · rw [q_set_n (by decide), q_set_ap]
            by_cases q : y = e
            · subst q; rw [if_pos ⟨rfl, rfl⟩, hee]
            · rw [if_neg (fun z => q z.2)]; exact g1 y (by omega)
          · have := hsh2 hno
            rw [j_sh_s, hbb] at this
            exact this
  exact loop n 0 0 0 M (by omega) (r_fr.rf M) (by decide) (by decide) (fun x hx => by omega) rfl (fun _ => rfl)
end Judge
