/-! how many doors can have families -/
def g_few (P : Nat → Bool) : Nat → Nat
  | 0 => 0
  | m + 1 => if P (m + 1) then m + 1 else g_few P m
theorem g_few_le (P : Nat → Bool) : ∀ m, g_few P m ≤ m := by
  intro m
  induction m with
  | zero => exact Nat.le_refl 0
  | succ m ih =>
    unfold g_few
    split <;> omega
/-- whether the first m doors alone have a family by OWN -/
def g_fewP (R C : Nat) (kd nu dc : Nat → Nat) (m : Nat) : Bool := !(g_law (g_W R C (g_kdE m kd nu) dc) nu 0 0 m).isEmpty
theorem r_wfE {R C n m : Nat} {kd nu dc wc : Nat → Nat} (hw : r_wf R C n kd nu dc wc) (h1 : 0 < m) (h2 : m ≤ n) : r_wf R C m (g_kdE m kd nu) nu dc wc := by
  obtain ⟨a1, a2, a3, a4, a5, a6, a7, a8⟩ := hw
  have k2 : ∀ c, 2 ≤ g_kdE m kd nu c → g_kdE m kd nu c = kd c ∧ nu c < m := fun c h => by
    unfold g_kdE at h ⊢
    by_cases e : 2 ≤ kd c ∧ m ≤ nu c
    · rw [if_pos e] at h; omega
    · rw [if_neg e] at h ⊢
      exact ⟨rfl, by omega⟩
  have k3 : ∀ c, nu c < m → g_kdE m kd nu c = kd c := fun c h => by
    unfold g_kdE
    rw [if_neg (fun q => by omega)]
  refine ⟨a1, a2, by omega, Or.inr ?_, fun c hc => ⟨?_, fun h => (k2 c h).2⟩, fun d hd => ?_, fun c hc h => ?_, fun c hc h => ?_⟩
  · rcases a4 with h | h
    · omega
    · omega
  · have := (a5 c hc).1
    unfold g_kdE
    split <;> omega
  · obtain ⟨b1, b2, b3, b4, b5, b6⟩ := a6 d (by omega)
    rw [k3 (dc d) (by omega), k3 (wc d) (by omega)]
    exact ⟨b1, b2, b3, b4, b5, b6⟩
  · have := k2 c (by omega)
    exact a7 c hc (by omega)
  · have := k2 c (by omega)
    exact a8 c hc (by omega)
theorem v_run_one (F : List (List (List Nat))) : (v_run 0 1 0 F).1 = if F.isEmpty then 0 else 1 := by
  cases F with
  | nil => rfl
  | cons f r =>
    rw [v_run, if_pos (Nat.and_zero _), if_pos rfl]
    rfl
section Few
variable {X : Nat × (Nat → Int32)} {R C n : Nat} {kd co nu dc wc : Nat → Nat}
theorem c_few (hw : b_wf R C n kd co nu dc wc) {d : Nat} {M : q_M} {K : Int32 → q_M → Prop} (hd : 16 ≤ d) (hb : b_now M R C n kd co nu dc wc) (h : ∀ M', (∀ k, (k < 54 ∨ 63 < k) → k ≠ 94 → k ≠ 95 → k ≠ 96 → M' k = M k) → K (nI (g_few (g_fewP R C kd nu dc) n)) M') : q_Ci X d 64 [.ref 0] M K := by
  have hn3 := hw.2.2.1
  refine vc64 ?_
  rw [hb.2.2.2.2.1]
  have loop : ∀ (m : Nat) (M1 : q_M), m ≤ n → (∀ k, (k < 54 ∨ 63 < k) → k ≠ 94 → k ≠ 95 → k ≠ 96 → M1 k = M k) → (∀ M', (∀ k, (k < 54 ∨ 63 < k) → k ≠ 94 → k ≠ 95 → k ≠ 96 → M' k = M k) → K (nI (g_few (g_fewP R C kd nu dc) m)) M') → q_Ex X d 64 11 [some (.ref 0), some (.int (nI m))] [] M1 (q_ri K) := by
    intro m
    induction m with
    | zero =>
      intro M1 hm f1 hK
      refine vc64_p11 (by omega) ⟨fun _ => hK M1 f1, fun g => absurd (show nI 0 ≤ 0 by decide) g⟩
    | succ m ih =>
      intro M1 hm f1 hK
      have hb1 : b_now M1 R C n kd co nu dc wc := hb.eq (fun k a b => f1 k (by omega) (by omega) (by omega) (by omega))
      refine vc64_p11 (by omega) ⟨fun g => absurd ((q_le (b := 0) (by omega) (by omega)).mp g) (by omega), fun _ => ?_⟩
      rw [pk_m1]
      refine c_fill54 hw hm (by omega) hb1 (fun M2 f2 w2 => ?_)
      have hwE := r_wfE hw.r (m := m + 1) (by omega) hm
      refine c_seek94 (N := R * C) (n := m + 1) (w := 0) (o := 0) (nd := 0) (stop := 1) (W := g_W R C (g_kdE (m + 1) kd nu) dc) (wc := wc) (by omega) (b_RC hw) (by omega) (fun e he => ?_) (fun e he => g_wy_ok hwE (hwE.2.2.2.2.2.1 e he).1) (by decide) (by decide) (fun e he => by simp) (by decide) (by decide) (by decide) w2.1 (fun e he => w2.2 e he) (fun M9 f9 p9 => ?_)
      · have hdc := (hw.2.2.2.2.2.1 e (by omega)).1
        have hC2 := (b_Cpos hw hdc).2
        exact g_wy_len (by omega) hw.1 hw.2.1 hdc
      · have f19 : ∀ k, (k < 54 ∨ 63 < k) → k ≠ 94 → k ≠ 95 → k ≠ 96 → M9 k = M k := fun k a b c e => by rw [f9 k b c e, f2 k (by omega), f1 k a b c e]
        rw [v_run_one]
        have hP : g_fewP R C kd nu dc (m + 1) = !(g_law (g_W R C (g_kdE (m + 1) kd nu) dc) nu 0 0 (m + 1)).isEmpty := rfl
        cases he : (g_law (g_W R C (g_kdE (m + 1) kd nu) dc) nu 0 0 (m + 1)).isEmpty with
        | true =>
          refine ⟨fun _ => ih M9 (by omega) f19 (fun M' a => ?_), fun g => absurd (show nI (if true = true then 0 else 1) ≤ 0 by decide) g⟩
          have := hK M' a
          rw [g_few, hP, he] at this
          exact this
        | false =>
          refine ⟨fun g => absurd g (by decide), fun _ => ?_⟩
          have := hK M9 f19
          rw [g_few, hP, he] at this
          exact this
  exact loop n M (Nat.le_refl n) (fun _ _ _ _ _ => rfl) h
theorem r_copies {d r t : Nat} {M : q_M} {K : q_M → Prop} (hr : q_lay[r]? = some (.inr (.inl 135))) (ht : q_lay[t]? = some (.inr (.inl 135))) (hne : r ≠ t) (hv : ∀ {K : q_M → Prop}, q_Ex X d 94 2 [some (.ref r), some (.ref t), some (.int 0)] [] M (q_rn K) → q_Cv X d 94 [.ref r, .ref t] M K) (hl : ∀ {M : q_M} {a : Int32} {K : q_M → Prop}, (((135 : Int32) ≤ a → K M) ∧ (¬ (135 : Int32) ≤ a → vp_in a 135 ∧ vp_in a 135 ∧ q_Ex X d 94 2 [some (.ref r), some (.ref t), some (.int (a + 1))] [] (q_set M t (Int32.toNatClampNeg a) (M r (Int32.toNatClampNeg a))) (q_rn K))) → q_Ex X d 94 2 [some (.ref r), some (.ref t), some (.int a)] [] M (q_rn K)) (h : ∀ M', (∀ k, k ≠ t → M' k = M k) → (∀ j, j < 135 → M' t j = M r j) → (∀ j, 135 ≤ j → M' t j = M t j) → K M') : q_Cv X d 94 [.ref r, .ref t] M K := by
  refine hv ?_
  have loop : ∀ (j i : Nat) (M1 : q_M), i + j = 135 → (∀ k, k ≠ t → M1 k = M k) → (∀ e, e < i → M1 t e = M r e) → (∀ e, 135 ≤ e → M1 t e = M t e) → q_Ex X d 94 2 [some (.ref r), some (.ref t), some (.int (nI i))] [] M1 (q_rn K) := by
    intro j
    induction j with
    | zero =>
      intro i M1 hi f1 f2 f3
      refine hl ⟨fun _ => h M1 f1 (fun e he => f2 e (by omega)) f3, fun g => absurd ((q_le (a := 135) (by omega) (by omega)).mpr (by omega)) g⟩
    | succ j ih =>
      intro i M1 hi f1 f2 f3
      refine hl ⟨fun g => absurd ((q_le (a := 135) (by omega) (by omega)).mp g) (by omega), fun _ => ⟨q_vi (by omega) (by decide), q_vi (by omega) (by decide), ?_⟩⟩
      rw [q_cn (by omega), nI_1]
      refine ih (i + 1) _ (by omega) (fun k hk => by rw [q_set_n hk]; exact f1 k hk) (fun e he => ?_) (fun e he => by rw [q_set_ap, if_neg (by omega)]; exact f3 e he)
      rw [q_set_ap]
      by_cases q : e = i
      · subst q; rw [if_pos ⟨rfl, rfl⟩, f1 r hne]
      · rw [if_neg (fun x => q x.2)]; exact f2 e (by omega)
  exact loop 135 0 M (by omega) (fun _ _ => rfl) (fun e he => by omega) (fun _ _ => rfl)
end Few
