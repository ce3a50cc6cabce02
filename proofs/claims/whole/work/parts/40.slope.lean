/-! a slope is read: what comes of it -/
def p_pr (bd bw : Nat → Bool) : Nat → Nat → Nat → Option Nat
  | 0, _, k => if k = 0 then none else some k
  | j + 1, n, k => if bd n = bw n then (if bd n then (if n = k then p_pr bd bw j (n + 1) (k + 1) else none) else p_pr bd bw j (n + 1) k) else none
theorem p_pr_s (bd bw : Nat → Bool) (j n k : Nat) : p_pr bd bw (j + 1) n k = (if bd n = bw n then (if bd n then (if n = k then p_pr bd bw j (n + 1) (k + 1) else none) else p_pr bd bw j (n + 1) k) else none) := rfl
def p_f3 (a b c : Bool) (n : Nat) : Bool := match n with
  | 0 => a
  | 1 => b
  | _ => c
theorem p_pr6 (bd bw : Nat → Bool) : p_pr bd bw 3 0 0 = p_pr (p_f3 (bd 0) (bd 1) (bd 2)) (p_f3 (bw 0) (bw 1) (bw 2)) 3 0 0 := rfl
def p_m3 (a b c : Bool) : Nat := (if a then 1 else 0) + (if b then 2 else 0) + (if c then 4 else 0)
theorem p_prT : ∀ a b c d e f : Bool, p_pr (p_f3 a b c) (p_f3 d e f) 3 0 0 = (if p_m3 a b c = p_m3 d e f then (if p_m3 a b c = 1 then some 1 else if p_m3 a b c = 3 then some 2 else if p_m3 a b c = 7 then some 3 else none) else none) := by decide
theorem p_prN : ∀ a b c d e f : Bool, ∀ n, n < 4 → p_pr (p_f3 a b c) (p_f3 d e f) 3 0 0 = some n → (1 ≤ n ∧ (∀ k, k < 3 → p_f3 a b c k = decide (k < n) ∧ p_f3 d e f k = decide (k < n))) := by decide
theorem p_prL : ∀ a b c d e f : Bool, (p_pr (p_f3 a b c) (p_f3 d e f) 3 0 0 = none ∨ p_pr (p_f3 a b c) (p_f3 d e f) 3 0 0 = some 1 ∨ p_pr (p_f3 a b c) (p_f3 d e f) 3 0 0 = some 2 ∨ p_pr (p_f3 a b c) (p_f3 d e f) 3 0 0 = some 3) := by decide
abbrev p_nd (dA wA : Nat → Option Nat) : Option Nat := p_pr (fun n => (dA n).isSome) (fun n => (wA n).isSome) 3 0 0
theorem p_nd_ok {dA wA : Nat → Option Nat} {n : Nat} (h : p_nd dA wA = some n) : 1 ≤ n ∧ n ≤ 3 ∧ ∀ k, k < 3 → (dA k).isSome = decide (k < n) ∧ (wA k).isSome = decide (k < n) := by
  unfold p_nd at h
  rw [p_pr6] at h
  have hn : n < 4 := by
    rcases p_prL (dA 0).isSome (dA 1).isSome (dA 2).isSome (wA 0).isSome (wA 1).isSome (wA 2).isSome with e | e | e | e
    · rw [e] at h; cases h
    · rw [e] at h; cases h; decide
    · rw [e] at h; cases h; decide
    · rw [e] at h; cases h; decide
  obtain ⟨h1, h2⟩ := p_prN _ _ _ _ _ _ n hn h
  refine ⟨h1, by omega, fun k hk => ?_⟩
  have := h2 k hk
  rcases (show k = 0 ∨ k = 1 ∨ k = 2 by omega) with e | e | e
  · subst e; exact this
  · subst e; exact this
  · subst e; exact this
def p_0 : p_S := (0, 0, 0, 0, 0, fun _ => 0, fun _ => 0, fun _ => 0, fun _ => none, fun _ => none)
theorem p_ok_0 : p_ok p_0 := ⟨by decide, by decide, by decide, fun h => absurd h (by decide), by decide, rfl, rfl, (fun i hi => absurd hi (by omega)), (fun n t _ h => by cases h), (fun n t _ h => by cases h)⟩
def p_end (L : Nat) : p_S → Int32 ⊕ (p_S × Nat)
  | (r, q, x, m, s, kd, co, nu, dA, wA) => if r = 0 ∨ x ≠ q then .inl (-1000 - nI L) else (match p_nd dA wA with
    | none => .inl (-2000)
    | some n => .inr ((r, q, x, m, s, kd, co, nu, dA, wA), n))
def p_res (tp : Nat → Nat) (L : Nat) : Int32 ⊕ (p_S × Nat) := match p_run tp L 0 p_0 with
  | .inl i => .inl (-1000 - nI i)
  | .inr σ => p_end L σ
theorem p_end_e (L r q x m s : Nat) (kd co nu : Nat → Nat) (dA wA : Nat → Option Nat) : p_end L (r, q, x, m, s, kd, co, nu, dA, wA) = (if r = 0 ∨ x ≠ q then .inl (-1000 - nI L) else (match p_nd dA wA with
    | none => .inl (-2000)
    | some n => .inr ((r, q, x, m, s, kd, co, nu, dA, wA), n))) := rfl
theorem p_run_ok (tp : Nat → Nat) : ∀ (j i : Nat) (σ τ : p_S), p_ok σ → p_run tp j i σ = .inr τ → p_ok τ := by
  intro j
  induction j with
  | zero => intro i σ τ h e; cases e; exact h
  | succ j ih =>
    intro i σ τ h e
    rw [p_run_s] at e
    cases hs : p_step (tp i) σ with
    | none => rw [hs] at e; cases e
    | some υ => rw [hs] at e; exact ih (i + 1) υ τ (p_step_ok h hs) e
abbrev p_dc (dA : Nat → Option Nat) : Nat → Nat := fun d => (dA d).getD 0
/-- a slope that was read is a board -/
theorem p_board {r q x m s n : Nat} {kd co nu : Nat → Nat} {dA wA : Nat → Option Nat} (h : p_ok (r, q, x, m, s, kd, co, nu, dA, wA)) (hr : ¬ (r = 0 ∨ x ≠ q)) (hn : p_nd dA wA = some n) : b_wf (r + 1) q n kd co nu (p_dc dA) (p_dc wA) ∧ m = (r + 1) * q ∧ s = g_stones kd m ∧ ∀ d, d < n → dA d = some (p_dc dA d) ∧ wA d = some (p_dc wA d) := by
  obtain ⟨h1, h2, h3, h4, h5, h6, h7, h8, h9, h10⟩ := h
  obtain ⟨n1, n3, nk⟩ := p_nd_ok hn
  have hr0 : ¬ r = 0 := fun e => hr (Or.inl e)
  have hxq : x = q := by
    rcases Nat.lt_trichotomy x q with e | e | e
    · exact absurd (Or.inr (by omega)) hr
    · exact e
    · exact absurd (Or.inr (by omega)) hr
  have hm : m = (r + 1) * q := by rw [Nat.add_mul, h6, hxq]; omega
  have h4' := h4 (by omega)
  have sm : ∀ d, d < n → dA d = some (p_dc dA d) ∧ wA d = some (p_dc wA d) := fun d hd => by
    obtain ⟨a, b⟩ := nk d (by omega)
    rw [decide_eq_true hd] at a b
    obtain ⟨t, ht⟩ := Option.isSome_iff_exists.mp a
    obtain ⟨u, hu⟩ := Option.isSome_iff_exists.mp b
    unfold p_dc
    rw [ht, hu]
    exact ⟨rfl, rfl⟩
  have lt : ∀ k, k < 3 → ((dA k).isSome = true → k < n) ∧ ((wA k).isSome = true → k < n) := fun k hk => by
    obtain ⟨a, b⟩ := nk k hk
    rw [a, b, decide_eq_true_eq]
    exact ⟨id, id⟩
  refine ⟨⟨by omega, h3, n3, Or.inr ⟨by omega, h4', n1⟩, fun c hc => ?_, fun d hd => ?_, fun c hc k2 => ?_, fun c hc k3 => ?_⟩, hm, h7, sm⟩
  · obtain ⟨a1, a2, a3, a4, a5⟩ := h8 c (by omega)
    refine ⟨a1, a2, a3, fun k => ?_⟩
    rcases (show kd c = 2 ∨ kd c = 3 by omega) with e | e
    · obtain ⟨b1, b2⟩ := a4 e
      exact (lt (nu c) b1).1 (by rw [b2]; rfl)
    · obtain ⟨b1, b2⟩ := a5 e
      exact (lt (nu c) b1).2 (by rw [b2]; rfl)
  · obtain ⟨s1, s2⟩ := sm d hd
    obtain ⟨a1, a2, a3⟩ := h9 d _ (by omega) s1
    obtain ⟨b1, b2, b3⟩ := h10 d _ (by omega) s2
    exact ⟨by omega, a2, a3, by omega, b2, b3⟩
  · obtain ⟨b1, b2⟩ := (h8 c (by omega)).2.2.2.1 k2
    unfold p_dc
    rw [b2]
    rfl
  · obtain ⟨b1, b2⟩ := (h8 c (by omega)).2.2.2.2 k3
    unfold p_dc
    rw [b2]
    rfl
section Slope
variable {X : Nat × (Nat → Int32)}
/-- the draft holds a board -/
def c_dr (M : q_M) (R C n : Nat) (kd co nu dc wc : Nat → Nat) : Prop := b_c M 3 4 5 6 7 8 R C n kd co nu dc wc
theorem c_pairDoors {d s2 : Nat} {M : q_M} {K : Int32 → q_M → Prop} {dA wA : Nat → Option Nat} (hz : M 3 4 = 0) (ha : ∀ n, n < 3 → M 7 n = g_oi (dA n) ∧ M 8 n = g_oi (wA n)) (hl : ∀ n t, n < 3 → (dA n = some t ∨ wA n = some t) → t < 30) (h1 : ∀ n, p_nd dA wA = some n → ∀ M', (∀ k, k ≠ 3 → M' k = M k) → (∀ j, j ≠ 4 → M' 3 j = M 3 j) → M' 3 4 = nI n → K 1 M') (h2 : p_nd dA wA = none → ∀ M', (∀ k, k ≠ 3 → M' k = M k) → K 0 M') : q_Ci X d 22 [.ref 3] M K := by
  refine vc22 ?_
  have sg : ∀ (o : Option Nat), (∀ t, o = some t → t < 30) → (g_oi o < 0 ↔ o.isSome = false) := fun o ho => by
    cases o with
    | none => exact ⟨fun _ => rfl, fun _ => by decide⟩
    | some t => exact ⟨fun g => absurd g (q_nlt0 (by have := ho t rfl; omega)), fun g => by cases g⟩
  have loop : ∀ (j n k : Nat) (M1 : q_M), n + j = 3 → k ≤ n → (∀ a, a ≠ 3 → M1 a = M a) → (∀ a, a ≠ 4 → M1 3 a = M 3 a) → M1 3 4 = nI k → p_pr (fun n => (dA n).isSome) (fun n => (wA n).isSome) j n k = p_nd dA wA → q_Ex X d 22 2 [some (.ref 3), some (.int (nI n)), none, none] [] M1 (q_ri K) := by
    intro j
    induction j with
    | zero =>
      intro n k M1 hn hk f1 f2 e4 hp
      have hp' : (if k = 0 then none else some k) = p_nd dA wA := hp
      refine vc22_p2 ⟨fun _ => ?_, fun g => absurd ((q_le (a := 3) (by decide) (by omega)).mpr (by omega)) g⟩
      rw [e4, show (0 : Int32) = nI 0 from rfl, q_le (by omega) (by decide)]
      refine ⟨fun g => ?_, fun g => ?_⟩
      · rw [if_pos (by omega)] at hp'
        exact h2 hp'.symm M1 f1
      · rw [if_neg (by omega)] at hp'
        exact h1 k hp'.symm M1 f1 f2 e4
    | succ j ih =>
      intro n k M1 hn hk f1 f2 e4 hp
      rw [p_pr_s] at hp
      obtain ⟨a1, a2⟩ := ha n (by omega)
      have g1 := sg (dA n) (fun t ht => hl n t (by omega) (Or.inl ht))
      have g2 := sg (wA n) (fun t ht => hl n t (by omega) (Or.inr ht))
      have hv : vp_in (nI n) 3 := q_vi (by omega) (by decide)
      refine vc22_p2 ⟨fun g => absurd ((q_le (a := 3) (by decide) (by omega)).mp g) (by omega), fun _ => ⟨hv, ?_⟩⟩
      rw [q_cn (by omega), f1 7 (by decide), f1 8 (by decide), a1, a2, g1, g2, e4, q_eq (by omega) (by omega), nI_1, nI_1]
      cases hd : (dA n).isSome with
      | false =>
        cases hw : (wA n).isSome with
        | false =>
          rw [hd, hw, if_pos rfl] at hp
          exact ⟨fun _ => ⟨hv, fun _ => ih (n + 1) k M1 (by omega) (by omega) f1 f2 e4 hp, fun g => absurd rfl g⟩, fun g => absurd rfl g⟩
        | true =>
          rw [hd, hw] at hp
          exact ⟨fun _ => ⟨hv, fun g => absurd g (by decide), fun _ => h2 hp.symm M1 f1⟩, fun g => absurd rfl g⟩
      | true =>
        cases hw : (wA n).isSome with
        | false =>
          rw [hd, hw] at hp
          exact ⟨fun g => absurd g (by decide), fun _ => ⟨hv, fun _ => h2 hp.symm M1 f1, fun g => absurd rfl g⟩⟩
        | true =>
          rw [hd, hw, if_pos rfl, if_pos rfl] at hp
          refine ⟨fun g => absurd g (by decide), fun _ => ⟨hv, fun g => absurd g (by decide), fun _ => ⟨fun e => ?_, fun e => ?_⟩⟩⟩
          · rw [if_pos e] at hp
            exact ih (n + 1) (k + 1) _ (by omega) (by omega) (fun a ha => by rw [q_set_n ha]; exact f1 a ha) (fun a ha => by rw [q_set_ap, if_neg (by omega)]; exact f2 a ha) (by rw [q_set_ap, if_pos ⟨rfl, rfl⟩]) hp
          · rw [if_neg e] at hp
            exact h2 hp.symm M1 f1
  exact loop 3 0 0 M (by decide) (by decide) (fun _ _ => rfl) (fun _ _ => rfl) hz rfl
theorem c_endRow {d : Nat} {M : q_M} {K : Int32 → q_M → Prop} {σ : p_S} (hok : p_ok σ) (hr : c_rd M σ) (h1 : ∀ τ M', p_step 47 σ = some τ → d_fr M M' → c_rd M' τ → K 1 M') (h2 : p_step 47 σ = none → K 0 M) : q_Ci X d 18 [.ref 3] M K := by
  obtain ⟨r, q, x, m, s, kd, co, nu, dA, wA⟩ := σ
  obtain ⟨a1, a2, a3, a4, a5, a6, a7, a8⟩ := id hr
  obtain ⟨o1, o2, o3, o4, o5, o6, o7, -⟩ := id hok
  have hx5 : x ≤ 5 := by split at o5 <;> omega
  refine vc18 ?_
  rw [a1, a2, a3, nI_1, show (0 : Int32) = nI 0 from rfl, q_eq (b := 0) (by omega) (by decide), q_eq (by omega) (by omega), show (6 : Int32) = nI 6 from rfl, q_lt (b := 6) (by omega) (by decide), show (2 : Int32) = nI 2 from rfl, q_lt (b := 2) (by omega) (by decide)]
  have go : (if r = 0 then 2 ≤ x else x = q ∧ r + 1 < 6) → K 1 (q_set (q_set (q_set M 3 1 (nI x)) 3 0 (nI (r + 1))) 3 11 (nI 0)) := fun c => by
    refine h1 _ _ (by rw [p_step_e, if_pos rfl, if_pos c]) (fun k hk => by rw [q_set_n (by omega), q_set_n (by omega), q_set_n (by omega)]) ⟨by simp [q_set_ap], by simp [q_set_ap], by simp [q_set_ap], by simp [q_set_ap, a4], by simp [q_set_ap, a5], by simp [q_set_ap, a6], fun i hi => ?_, fun n hn => ?_⟩
    · rw [q_set_n (by decide), q_set_n (by decide), q_set_n (by decide), q_set_n (by decide), q_set_n (by decide), q_set_n (by decide), q_set_n (by decide), q_set_n (by decide), q_set_n (by decide)]; exact a7 i hi
    · rw [q_set_n (by decide), q_set_n (by decide), q_set_n (by decide), q_set_n (by decide), q_set_n (by decide), q_set_n (by decide)]; exact a8 n hn
  have no : ¬ (if r = 0 then 2 ≤ x else x = q ∧ r + 1 < 6) → K 0 M := fun c => h2 (by rw [p_step_e, if_pos rfl, if_neg c])
  refine ⟨fun g => ?_, fun g => ?_⟩
  · have hr0 : ¬ r = 0 := fun e => g (o2.mp e)
    rw [if_neg hr0] at go no
    exact ⟨fun g2 => no (fun z => g2 z.1), fun g2 => ⟨fun g3 => go ⟨g2, g3⟩, fun g3 => no (fun z => g3 z.2)⟩⟩
  · have hr0 : r = 0 := o2.mpr g
    rw [if_pos hr0] at go no
    exact ⟨fun g2 => no (by omega), fun g2 => ⟨fun g3 => go (by omega), fun g3 => by omega⟩⟩
theorem c_read {d L : Nat} {tp : Nat → Nat} {M : q_M} {K : Int32 → q_M → Prop} (hd : 6 ≤ d) (hL : L ≤ 48) (htp : ∀ j, j < L → M 1 j = nI (tp j) ∧ tp j < 256) (h1 : ∀ e, p_res tp L = .inl e → ¬ e = 0 → ∀ M', d_fr M M' → K e M') (h2 : ∀ r q x m s kd co nu dA wA n, p_res tp L = .inr ((r, q, x, m, s, kd, co, nu, dA, wA), n) → b_wf (r + 1) q n kd co nu (p_dc dA) (p_dc wA) → ∀ M', d_fr M M' → c_dr M' (r + 1) q n kd co nu (p_dc dA) (p_dc wA) → K 0 M') : q_Ci X d 16 [.ref 3, .ref 1, .int (nI L)] M K := by
  refine vc16 (by omega) ?_
  refine vc17 (by omega) (c_afill (na := 3) rfl (by decide) (fun M2 f2 z2 => c_afill (na := 3) rfl (by decide) (fun M3 f3 z3 => ?_)))
  have e48 : (if (48 : Int32) < nI L then (48 : Int32) else nI L) = nI L := by
    rw [if_neg (fun g => by have := (q_lt (a := 48) (by decide) (by omega)).mp g; omega)]
  rw [e48]
  have f30 : d_fr M M3 := fun k hk => by rw [f3 k (by omega), f2 k (by omega), q_set_n (by omega), q_set_n (by omega), q_set_n (by omega), q_set_n (by omega), q_set_n (by omega), q_set_n (by omega)]
  have r30 : c_rd M3 p_0 := by
    have e : M3 3 = (q_set (q_set (q_set (q_set (q_set (q_set M 3 0 0) 3 1 0) 3 2 0) 3 3 0) 3 4 0) 3 11 0) 3 := by rw [f3 3 (by decide), f2 3 (by decide)]
    refine ⟨by rw [e]; simp [q_set_ap, nI_0], by rw [e]; simp [q_set_ap, nI_0], by rw [e]; simp [q_set_ap, nI_0], by rw [e]; simp [q_set_ap, nI_0], by rw [e]; simp [q_set_ap, nI_0], by rw [e]; simp [q_set_ap], fun i hi => absurd hi (by omega), fun n hn => ⟨?_, z3 n hn⟩⟩
    rw [f3 7 (by decide)]
    exact z2 n hn
  have nz : ∀ i, i ≤ 48 → ¬ ((-1000 : Int32) - nI i = 0) := by decide +kernel
  have loop : ∀ (j i : Nat) (σ : p_S) (M4 : q_M), i + j = L → p_ok σ → c_rd M4 σ → d_fr M M4 → p_run tp L 0 p_0 = p_run tp j i σ → q_Ex X d 16 14 [some (.ref 3), some (.ref 1), none, some (.int (nI L)), some (.int (nI i)), none] [] M4 (q_ri K) := by
    intro j
    induction j with
    | zero =>
      intro i σ M4 hi ok rd f4 hp
      obtain ⟨r, q, x, m, s, kd, co, nu, dA, wA⟩ := σ
      obtain ⟨a1, a2, a3, a4, a5, a6, a7, a8⟩ := id rd
      obtain ⟨o1, o2, o3, o4, o5, o6, o7, o8, o9, o10⟩ := id ok
      have hx5 : x ≤ 5 := by split at o5 <;> omega
      have hm := (p_ok_m ok).1
      have hp2 : p_run tp L 0 p_0 = .inr (r, q, x, m, s, kd, co, nu, dA, wA) := hp
      have hres : p_res tp L = p_end L (r, q, x, m, s, kd, co, nu, dA, wA) := by unfold p_res; rw [hp2]
      rw [p_end_e] at hres
      refine vc16_p14 (by omega) ⟨fun _ => ?_, fun g => absurd ((q_le (by omega) (by omega)).mpr (by omega)) g⟩
      rw [a1, a2, a3, nI_1, show (1 : Int32) = nI 1 from rfl, q_lt (by omega) (by decide), q_eq (by omega) (by omega)]
      refine ⟨fun g => ?_, fun g => ⟨fun g2 => ?_, fun g2 => ?_⟩⟩
      · rw [if_pos (Or.inl (by omega))] at hres
        exact h1 _ hres (nz L hL) M4 f4
      · have hc : ¬ (r = 0 ∨ x ≠ q) := by omega
        rw [if_neg hc] at hres
        have ln : ∀ n t, n < 3 → (dA n = some t ∨ wA n = some t) → t < 30 := fun n t hn ht => by
          rcases ht with e | e
          · have := (o9 n t hn e).1; omega
          · have := (o10 n t hn e).1; omega
        refine c_pairDoors (s2 := 0) (dA := dA) (wA := wA) (by rw [q_set_ap, if_neg (by omega)]; exact a6) (fun n hn => by rw [q_set_n (by decide), q_set_n (by decide)]; exact a8 n hn) ln (fun n hn M5 g1 g2' g3 => ⟨fun g => absurd g (by decide), fun _ => ?_⟩) (fun hn M5 g1 => ⟨fun _ => ?_, fun g => absurd rfl g⟩)
        · rw [hn] at hres
          obtain ⟨b1, b2, b3, b4⟩ := p_board ok hc hn
          have hn3 := b1.2.2.1
          refine h2 r q x m s kd co nu dA wA n hres b1 M5 (fun k hk => by rw [g1 k (by omega), q_set_n (by omega)]; exact f4 k hk) ⟨?_, ?_, ?_, ?_, g3, fun c hc2 => ?_, fun e he => ?_⟩
          · rw [g2' 0 (by decide), q_set_ap, if_pos ⟨rfl, rfl⟩]
          · rw [g2' 1 (by decide), q_set_ap, if_neg (by omega)]; exact a2
          · rw [g2' 2 (by decide), q_set_ap, if_neg (by omega), ← b2]; exact a4
          · rw [g2' 3 (by decide), q_set_ap, if_neg (by omega), ← b2, ← b3]; exact a5
          · rw [g1 4 (by decide), g1 5 (by decide), g1 6 (by decide), q_set_n (by decide), q_set_n (by decide), q_set_n (by decide)]
            exact a7 c (by omega)
          · rw [g1 7 (by decide), g1 8 (by decide), q_set_n (by decide), q_set_n (by decide)]
            obtain ⟨c1, c2⟩ := a8 e (by omega)
            obtain ⟨c3, c4⟩ := b4 e he
            rw [c1, c2, c3, c4]
            exact ⟨rfl, rfl⟩
        · rw [hn] at hres
          exact h1 _ hres (by decide) M5 (fun k hk => by rw [g1 k (by omega), q_set_n (by omega)]; exact f4 k hk)
      · rw [if_pos (Or.inr (fun e => g2 e))] at hres
        exact h1 _ hres (nz L hL) M4 f4
    | succ j ih =>
      intro i σ M4 hi ok rd f4 hp
      obtain ⟨t1, t2⟩ := htp i (by omega)
      have m1 : M4 1 i = nI (tp i) := by rw [f4 1 (by omega)]; exact t1
      have hv : vp_in (nI i) 48 := q_vi (by omega) (by decide)
      rw [p_run_s] at hp
      have ft : p_step (tp i) σ = none → p_res tp L = .inl (-1000 - nI i) := fun e => by
        rw [e] at hp
        unfold p_res
        rw [hp]
      refine vc16_p14 (by omega) ⟨fun g => absurd ((q_le (by omega) (by omega)).mp g) (by omega), fun _ => ⟨hv, ?_⟩⟩
      rw [q_cn (by omega), m1, show (47 : Int32) = nI 47 from rfl, q_eq (by omega) (by decide), nI_1]
      refine ⟨fun g => ⟨hv, ?_⟩, fun g => ?_⟩
      · refine c_addCell (by omega) t2 g ok rd (fun τ M5 hs f5 r5 => ⟨fun _ => ?_, fun g => absurd g (by decide)⟩) (fun hs M5 f5 => ⟨fun g => absurd rfl g, fun _ => ?_⟩)
        · rw [hs] at hp
          exact ih (i + 1) τ M5 (by omega) (p_step_ok ok hs) r5 (fun k hk => by rw [f5 k hk]; exact f4 k hk) hp
        · exact h1 _ (ft hs) (nz i (by omega)) M5 (fun k hk => by rw [f5 k hk]; exact f4 k hk)
      · rw [g] at hp ft
        refine c_endRow ok rd (fun τ M5 hs f5 r5 => ⟨fun _ => ?_, fun g => absurd g (by decide)⟩) (fun hs => ⟨fun g => absurd rfl g, fun _ => ?_⟩)
        · rw [hs] at hp
          exact ih (i + 1) τ M5 (by omega) (p_step_ok ok hs) r5 (fun k hk => by rw [f5 k hk]; exact f4 k hk) hp
        · exact h1 _ (ft hs) (nz i (by omega)) M4 f4
  exact loop L 0 p_0 M3 (by omega) p_ok_0 r30 f30 rfl
theorem c_forget {d : Nat} {ln : Nat → Nat} {M : q_M} {K : Int32 → q_M → Prop} (hl : ∀ e, e < 3 → M 19 e = nI (ln e)) (h : ∀ M', (∀ k, k ≠ 19 → k ≠ 10 → M' k = M k) → (∀ j, j ≠ 4 → M' 10 j = M 10 j) → M' 10 4 = 0 → (∀ e, e < 3 → M' 19 e = 0) → K (nI (ln 0 + ln 1 + ln 2)) M') : q_Ci X d 5 [.ref 10] M K := by
  have v0 : vp_in (nI 0) 3 := q_vi (by decide) (by decide)
  have v1 : vp_in (nI 1) 3 := q_vi (by decide) (by decide)
  have v2 : vp_in (nI 2) 3 := q_vi (by decide) (by decide)
  refine vc5 (vc5_p4 (a1 := 0) (a2 := nI 0) ⟨fun g => absurd g (by decide), fun _ => ⟨v0, v0, ?_⟩⟩)
  rw [q_cn (by decide), hl 0 (by decide), nI_1]
  refine vc5_p4 ⟨fun g => absurd g (by decide), fun _ => ⟨v1, v1, ?_⟩⟩
  rw [q_cn (by decide), q_set_ap, if_neg (by decide), hl 1 (by decide), nI_1]
  refine vc5_p4 ⟨fun g => absurd g (by decide), fun _ => ⟨v2, v2, ?_⟩⟩
  rw [q_cn (by decide), q_set_ap, if_neg (by decide), q_set_ap, if_neg (by decide), hl 2 (by decide), nI_1]
  refine vc5_p4 ⟨fun _ => ?_, fun g => absurd (show (3 : Int32) ≤ nI (2 + 1) by decide) g⟩
  rw [show (0 : Int32) + nI (ln 0) = nI (0 + ln 0) from nI_add 0 _, nI_add, nI_add, Nat.zero_add]
  refine h _ (fun k a b => by rw [q_set_n b, q_set_n a, q_set_n a, q_set_n a]) (fun j hj => by rw [q_set_ap, if_neg (by omega), q_set_n (by decide), q_set_n (by decide), q_set_n (by decide)]) (by rw [q_set_ap, if_pos ⟨rfl, rfl⟩]) (fun e he => ?_)
  rcases (show e = 0 ∨ e = 1 ∨ e = 2 by omega) with e | e | e
  · subst e; simp [q_set_ap]
  · subst e; simp [q_set_ap]
  · subst e; simp [q_set_ap]
theorem c_begin {R C n d : Nat} {kd co nu dc wc : Nat → Nat} {ln : Nat → Nat} {M : q_M} {K : q_M → Prop} {a : Int32} (hd : 4 ≤ d) (hw : b_wf R C n kd co nu dc wc) (hr : c_dr M R C n kd co nu dc wc) (hl : ∀ e, e < 3 → M 19 e = nI (ln e)) (h : ∀ M', (∀ k, (k < 10 ∨ (16 < k ∧ k ≠ 19)) → M' k = M k) → b_now M' R C n kd co nu dc wc → M' 10 1 = a → M' 10 2 = M 10 2 → M' 10 3 = nI (o_at (o_st n)) → M' 10 4 = 0 → (∀ e, e < 3 → M' 19 e = 0) → K M') : q_Cv X d 4 [.ref 10, .ref 3, .int a] M K := by
  have hn3 := hw.2.2.1
  have hRC := b_RC hw
  obtain ⟨r0, r1, r2, r3, r4, r5, r6⟩ := hr
  refine vc4 (by omega) (vc15_11_3 (by omega) ?_)
  have e114 : (q_row (q_row (q_row (q_row (q_row (q_set (q_set (q_set (q_set (q_set M 11 0 (M 3 0)) 11 1 (M 3 1)) 11 2 (M 3 2)) 11 3 (M 3 3)) 11 4 (M 3 4)) 12 (va_cpy (M 4) (M 12) 0 0 30)) 13 (va_cpy (M 5) (M 13) 0 0 30)) 14 (va_cpy (M 6) (M 14) 0 0 30)) 15 (va_cpy (M 7) (M 15) 0 0 3)) 16 (va_cpy (M 8) (M 16) 0 0 3)) 11 4 = nI n := by
    rw [q_row_n (by decide), q_row_n (by decide), q_row_n (by decide), q_row_n (by decide), q_row_n (by decide), q_set_ap, if_pos ⟨rfl, rfl⟩]; exact r4
  rw [e114]
  refine c_ownOrder (by omega) hn3 ?_
  refine c_forget (ln := ln) (fun e he => ?_) (fun M5 f5 g5 z5 w5 => ?_)
  · rw [q_set_n (by decide), q_set_n (by decide), q_row_n (by decide), q_row_n (by decide), q_row_n (by decide), q_row_n (by decide), q_row_n (by decide), q_set_n (by decide), q_set_n (by decide), q_set_n (by decide), q_set_n (by decide), q_set_n (by decide)]
    exact hl e he
  · refine h M5 (fun k hk => ?_) ⟨?_, ?_, ?_, ?_, ?_, fun c hc => ?_, fun e he => ?_⟩ ?_ ?_ ?_ z5 w5
    · rw [f5 k (by omega) (by omega), q_set_n (by omega), q_set_n (by omega), q_row_n (by omega), q_row_n (by omega), q_row_n (by omega), q_row_n (by omega), q_row_n (by omega), q_set_n (by omega), q_set_n (by omega), q_set_n (by omega), q_set_n (by omega), q_set_n (by omega)]
    · rw [f5 11 (by decide) (by decide)]; simp [q_set_ap, q_row_ap, r0]
    · rw [f5 11 (by decide) (by decide)]; simp [q_set_ap, q_row_ap, r1]
    · rw [f5 11 (by decide) (by decide)]; simp [q_set_ap, q_row_ap, r2]
    · rw [f5 11 (by decide) (by decide)]; simp [q_set_ap, q_row_ap, r3]
    · rw [f5 11 (by decide) (by decide)]; simp [q_set_ap, q_row_ap, r4]
    · rw [f5 12 (by decide) (by decide), f5 13 (by decide) (by decide), f5 14 (by decide) (by decide)]
      obtain ⟨b1, b2, b3⟩ := r5 c hc
      have h30 : c < 30 := by omega
      simp [q_set_ap, q_row_ap, q_cpy_ap, h30, b1, b2, b3]
    · rw [f5 15 (by decide) (by decide), f5 16 (by decide) (by decide)]
      obtain ⟨b1, b2⟩ := r6 e he
      have h3 : e < 3 := by omega
      simp [q_set_ap, q_row_ap, q_cpy_ap, h3, b1, b2]
    · rw [g5 1 (by decide)]; simp [q_set_ap]
    · rw [g5 2 (by decide)]; simp [q_set_ap, q_row_ap]
    · rw [g5 3 (by decide)]; simp [q_set_ap]
end Slope
