/-! the reference: how many doors can have families -/
def r_fr (M M' : q_M) : Prop := (∀ k, (k < 97 ∨ k = 98 ∨ k = 99 ∨ k = 100 ∨ k = 102) → M' k = M k) ∧ M' 97 4 = M 97 4 ∧ M' 97 6 = M 97 6
theorem r_fr.rf (M : q_M) : r_fr M M := ⟨fun _ _ => rfl, rfl, rfl⟩
theorem r_fr.tr {A B D : q_M} (h : r_fr A B) (h2 : r_fr B D) : r_fr A D := ⟨fun k a => (h2.1 k a).trans (h.1 k a), h2.2.1.trans h.2.1, h2.2.2.trans h.2.2⟩
theorem x_fr.r {A B : q_M} (h : x_fr A B) : r_fr A B := ⟨fun k a => h.1 k (by omega) (by omega), h.2 4 (by omega), h.2 6 (by omega)⟩
theorem r_cp {X : Nat × (Nat → Int32)} {d : Nat} {M : q_M} {K : q_M → Prop} : ((∀ M', (∀ k, k ≠ 114 → M' k = M k) → (∀ j, j < 135 → M' 114 j = M 99 j) → (∀ j, 135 ≤ j → M' 114 j = M 114 j) → K M') → q_Cv X d 94 [.ref 99, .ref 114] M K) ∧ ((∀ M', (∀ k, k ≠ 99 → M' k = M k) → (∀ j, j < 135 → M' 99 j = M 114 j) → (∀ j, 135 ≤ j → M' 99 j = M 99 j) → K M') → q_Cv X d 94 [.ref 114, .ref 99] M K) ∧ ((∀ M', (∀ k, k ≠ 100 → M' k = M k) → (∀ j, j < 135 → M' 100 j = M 99 j) → (∀ j, 135 ≤ j → M' 100 j = M 100 j) → K M') → q_Cv X d 94 [.ref 99, .ref 100] M K) ∧ ((∀ M', (∀ k, k ≠ 99 → M' k = M k) → (∀ j, j < 135 → M' 99 j = M 100 j) → (∀ j, 135 ≤ j → M' 99 j = M 99 j) → K M') → q_Cv X d 94 [.ref 100, .ref 99] M K) :=
  ⟨r_copies rfl rfl (by decide) vc94_99_114 vc94_99_114_p2, r_copies rfl rfl (by decide) vc94_114_99 vc94_114_99_p2, r_copies rfl rfl (by decide) vc94_99_100 vc94_99_100_p2, r_copies rfl rfl (by decide) vc94_100_99 vc94_100_99_p2⟩
theorem g_kdE_step {m : Nat} {kd nu : Nat → Nat} {c : Nat} : (g_kdE (m + 1) kd nu c < 2 → g_kdE m kd nu c = g_kdE (m + 1) kd nu c) ∧ (2 ≤ g_kdE (m + 1) kd nu c → 2 ≤ kd c ∧ g_kdE (m + 1) kd nu c = kd c ∧ (nu c < m → g_kdE m kd nu c = kd c) ∧ (m ≤ nu c → g_kdE m kd nu c = 0)) := by
  unfold g_kdE
  by_cases e : 2 ≤ kd c ∧ m + 1 ≤ nu c
  · rw [if_pos e, if_pos (show 2 ≤ kd c ∧ m ≤ nu c by omega)]
    exact ⟨fun _ => rfl, fun q => by omega⟩
  · rw [if_neg e]
    refine ⟨fun q => ?_, fun q => ⟨q, rfl, fun a => ?_, fun a => ?_⟩⟩
    · rw [if_neg (by omega)]
    · rw [if_neg (by omega)]
    · rw [if_pos ⟨q, a⟩]
section RFew
variable {X : Nat × (Nat → Int32)} {R C n : Nat} {kd co nu dc wc : Nat → Nat}
theorem r_few (hw : r_wf R C n kd nu dc wc) {d ks : Nat} {se : Nat → Nat} {M : q_M} {K : Int32 → q_M → Prop} (hd : 20 ≤ d) (hb : r_b M R C n kd co nu) (hco : ∀ c, c < R * C → co c ≤ 9) (hst7 : M 99 7 = nI ks) (hks : ks ≤ 4) (hse : ∀ j, j < ks → M 99 (8 + j) = nI (se j) ∧ se j < R * C) (h : ∀ M', r_fr M M' → K (nI (g_few (g_fewP R C kd nu dc) n)) M') : q_Ci X d 145 [.ref 97] M K := by
  have hn3 := hw.2.2.1
  have hRC := r_RC hw
  -- what stands while it goes on
  let ok : q_M → Prop := fun M1 => (∀ k, (k < 97 ∨ k = 98 ∨ k = 100 ∨ k = 102) → M1 k = M k) ∧ M1 97 4 = M 97 4 ∧ M1 97 6 = M 97 6 ∧ (∀ j, j < 135 → M1 114 j = M 99 j) ∧ (∀ j, (j < 45 ∨ j % 3 ≠ 0 ∨ 45 + 3 * (R * C) ≤ j) → j ≠ 2 → M1 99 j = M 99 j)
  have okset : ∀ (M1 : q_M) (j : Nat) (v : Int32), ok M1 → (j = 2 ∨ (45 ≤ j ∧ j % 3 = 0 ∧ j < 45 + 3 * (R * C))) → ok (q_set M1 99 j v) := by
    intro M1 j v h1 hj
    obtain ⟨a1, a2, a3, a4, a5⟩ := h1
    refine ⟨fun k hk => by rw [q_set_n (by omega)]; exact a1 k hk, by rw [q_set_n (by decide)]; exact a2, by rw [q_set_n (by decide)]; exact a3, fun e he => by rw [q_set_n (by decide)]; exact a4 e he, fun e he e2 => ?_⟩
    rw [q_set_ap, if_neg (by omega)]
    exact a5 e he e2
  have fin : ∀ (M3 : q_M) (v : Int32), ok M3 → (∀ M', r_fr M M' → K v M') → q_Cv X (d - 1) 94 [.ref 114, .ref 99] M3 (fun M4 => K v M4) := by
    intro M3 v h1 hK
    obtain ⟨a1, a2, a3, a4, a5⟩ := h1
    refine r_cp.2.1 (fun M4 f1 f2 f3 => hK M4 ⟨fun k hk => ?_, by rw [f1 97 (by decide)]; exact a2, by rw [f1 97 (by decide)]; exact a3⟩)
    by_cases e : k = 99
    · subst e
      funext j
      by_cases q : j < 135
      · rw [f2 j q, a4 j q]
      · rw [f3 j (by omega), a5 j (by omega) (by omega)]
    · rw [f1 k e]; exact a1 k (by omega)
  have hfew := g_few_le (g_fewP R C kd nu dc)
  have loop : ∀ (m : Nat) (M1 : q_M), m ≤ n → ok M1 → (∀ c, c < R * C → M1 99 (45 + 3 * c) = nI (g_kdE (m + 1) kd nu c)) → (∀ M', r_fr M M' → K (nI (g_few (g_fewP R C kd nu dc) m)) M') → q_Ex X d 145 20 [some (.ref 97), some (.int 0), some (.int (nI m)), none] [] M1 (q_ri K) := by
    intro m
    induction m with
    | zero =>
      intro M1 hm o1 k1 hK
      exact vc145_p20 (by omega) ⟨fun _ => fin M1 0 o1 hK, fun g => absurd (show nI 0 ≤ 0 by decide) g⟩
    | succ m ih =>
      intro M1 hm o1 k1 hK
      refine vc145_p20 (by omega) ⟨fun g => absurd ((q_le (b := 0) (by omega) (by omega)).mp g) (by omega), fun _ => ⟨fun g => absurd rfl g, fun _ => ?_⟩⟩
      -- the wants, then the families
      have wants : ∀ (j i : Nat) (M2 : q_M), i + j = m + 1 → ok M2 → M2 99 2 = nI (m + 1) → (∀ c, c < R * C → M2 99 (45 + 3 * c) = nI (g_kdE (m + 1) kd nu c)) → (∀ e, e < i → M2 109 e = nI e) → q_Ex X d 145 92 [some (.ref 97), some (.int 0), some (.int (nI (m + 1))), some (.int (nI i))] [] M2 (q_ri K) := by
        intro j
        induction j with
        | zero =>
          intro i M2 hi o2 n2 k2 w2
          refine vc145_p92 (by omega) ⟨fun _ => ?_, fun g => absurd ((q_le (by omega) (by omega)).mpr (by omega)) g⟩
          have o2' := o2
          obtain ⟨a1, a2, a3, a4, a5⟩ := o2
          have hb2 : r_b M2 R C (m + 1) (g_kdE (m + 1) kd nu) co nu := by
            refine ⟨by rw [a5 0 (by omega) (by decide)]; exact hb.1, by rw [a5 1 (by omega) (by decide)]; exact hb.2.1, n2, fun c hc => ⟨k2 c hc, ?_, fun h2 => ?_⟩⟩
            · rw [a5 (46 + 3 * c) (by omega) (by omega)]; exact (hb.2.2.2 c hc).2.1
            · rw [a5 (47 + 3 * c) (by omega) (by omega)]
              refine (hb.2.2.2 c hc).2.2 ?_
              unfold g_kdE at h2
              split at h2
              · omega
              · exact h2
          refine r_findsFamilies (r_wfE hw (m := m + 1) (by omega) hm) (wk := none) (wn := l_wnB 0 0 (m + 1)) (ks := ks) (se := se) (by omega) hb2 hco (by rw [a5 7 (by omega) (by decide)]; exact hst7) hks (fun j hj => by rw [a5 (8 + j) (by omega) (by omega)]; exact hse j hj) (fun k e => by cases e) (fun dr v hv => ?_) (fun dr hdr => ?_) (fun M3 f3 w3 z3 => ?_)
          · unfold l_wnB at hv
            by_cases q : dr < m + 1
            · rw [if_pos q] at hv
              have e : some dr = some v := hv
              have := Option.some.inj e
              omega
            · rw [if_neg q] at hv; cases hv
          · rw [w2 dr (by omega)]
            unfold l_wnB
            rw [if_pos hdr]
            rfl
          · have hl : M3 97 20 = nI (g_law (g_W R C (g_kdE (m + 1) kd nu) dc) nu 0 0 (m + 1)).length := z3.1
            have o3 : ok M3 := ⟨fun k hk => by rw [f3.1 k (by omega) (by omega)]; exact a1 k hk, by rw [f3.2 4 (by omega)]; exact a2, by rw [f3.2 6 (by omega)]; exact a3, fun j hj => by rw [f3.1 114 (by decide) (by omega)]; exact a4 j hj, fun j hj h2 => by rw [f3.1 99 (by decide) (by omega)]; exact a5 j hj h2⟩
            have hcnt : (g_law (g_W R C (g_kdE (m + 1) kd nu) dc) nu 0 0 (m + 1)).length ≤ 126 ^ (m + 1) := g_fam_cnt _ _ _ (m + 1) 0 0 (fun e he => by
              have hdc := (hw.2.2.2.2.2.1 e (by omega)).1
              obtain ⟨hR2, hC2⟩ := r_Cpos hw hdc
              exact g_wy_len (by omega) hw.1 hw.2.1 hdc)
            have hp3 : 126 ^ (m + 1) ≤ 126 ^ 3 := Nat.pow_le_pow_right (by decide) (by omega)
            have hP : g_fewP R C kd nu dc (m + 1) = !(g_law (g_W R C (g_kdE (m + 1) kd nu) dc) nu 0 0 (m + 1)).isEmpty := rfl
            rw [hl, show (0 : Int32) = nI 0 from rfl, q_le (by omega) (by decide), pk_m1]
            refine ⟨fun g => ?_, fun g => ?_⟩
            · have he : (g_law (g_W R C (g_kdE (m + 1) kd nu) dc) nu 0 0 (m + 1)).isEmpty = true := by
                rw [List.isEmpty_iff]
                exact List.length_eq_zero_iff.mp (by omega)
              refine ih M3 (by omega) o3 (fun c hc => ?_) (fun M' a => ?_)
              · rw [f3.1 99 (by decide) (by omega)]; exact k2 c hc
              · have := hK M' a
                rw [g_few, hP, he] at this
                exact this
            · have he : (g_law (g_W R C (g_kdE (m + 1) kd nu) dc) nu 0 0 (m + 1)).isEmpty = false := by
                cases hq : (g_law (g_W R C (g_kdE (m + 1) kd nu) dc) nu 0 0 (m + 1)).isEmpty with
                | false => rfl
                | true =>
                  rw [List.isEmpty_iff] at hq
                  rw [hq] at g
                  exact absurd (Nat.le_refl 0) g
              have hK2 : ∀ M', r_fr M M' → K (nI (m + 1)) M' := fun M' a => by
                have := hK M' a
                rw [g_few, hP, he] at this
                exact this
              refine vc145_p20 (by omega) ⟨fun _ => fin M3 _ o3 hK2, fun _ => ⟨fun _ => fin M3 _ o3 hK2, fun g2 => absurd ((q_eq (b := 0) (by omega) (by decide)).mp g2) (by omega)⟩⟩
        | succ j ihj =>
          intro i M2 hi o2 n2 k2 w2
          refine vc145_p92 (by omega) ⟨fun g => absurd ((q_le (by omega) (by omega)).mp g) (by omega), fun _ => ⟨q_vi (by omega) (by decide), ?_⟩⟩
          rw [q_cn (by omega), nI_1]
          obtain ⟨a1, a2, a3, a4, a5⟩ := o2
          refine ihj (i + 1) _ (by omega) ⟨fun k hk => by rw [q_set_n (by omega)]; exact a1 k hk, by rw [q_set_n (by decide)]; exact a2, by rw [q_set_n (by decide)]; exact a3, fun e he => by rw [q_set_n (by decide)]; exact a4 e he, fun e he h2 => by rw [q_set_n (by decide)]; exact a5 e he h2⟩ (by rw [q_set_n (by decide)]; exact n2) (fun c hc => by rw [q_set_n (by decide)]; exact k2 c hc) (fun e he => ?_)
          rw [q_set_ap]
          by_cases q : e = i
          · subst q; rw [if_pos ⟨rfl, rfl⟩]
          · rw [if_neg (fun x => q x.2)]; exact w2 e (by omega)
      -- the cells
      have cells : ∀ (j i : Nat) (M2 : q_M), i + j = R * C → ok M2 → (∀ c, c < R * C → M2 99 (45 + 3 * c) = nI (if c < i then g_kdE (m + 1) kd nu c else g_kdE (m + 2) kd nu c)) → q_Ex X d 145 30 [some (.ref 97), some (.int 0), some (.int (nI (m + 1))), some (.int (nI i))] [] M2 (q_ri K) := by
        intro j
        induction j with
        | zero =>
          intro i M2 hi o2 k2
          have hcl : q_Ci X (d - 1) 95 [.ref 97] M2 (fun r2 M1 => r2 = nI (R * C) ∧ M1 = M2) := by
            refine vc95 ?_
            rw [o2.2.2.2.2 0 (by omega) (by decide), o2.2.2.2.2 1 (by omega) (by decide), hb.1, hb.2.1, pk_mul]
            exact ⟨rfl, rfl⟩
          refine vc145_p30 (by omega) (hcl.mono (fun r M1 e => ?_))
          obtain ⟨rfl, rfl⟩ := e
          refine ⟨fun _ => ?_, fun g => absurd ((q_le (by omega) (by omega)).mpr (by omega)) g⟩
          refine wants (m + 1) 0 _ (by omega) (okset _ _ _ o2 (Or.inl rfl)) (by rw [q_set_ap, if_pos ⟨rfl, rfl⟩]) (fun c hc => ?_) (fun e he => by omega)
          rw [q_set_ap, if_neg (by omega), k2 c hc, if_pos (by omega)]
        | succ j ihj =>
          intro i M2 hi o2 k2
          have hi2 : i < R * C := by omega
          have hcl : q_Ci X (d - 1) 95 [.ref 97] M2 (fun r2 M1 => r2 = nI (R * C) ∧ M1 = M2) := by
            refine vc95 ?_
            rw [o2.2.2.2.2 0 (by omega) (by decide), o2.2.2.2.2 1 (by omega) (by decide), hb.1, hb.2.1, pk_mul]
            exact ⟨rfl, rfl⟩
          refine vc145_p30 (by omega) (hcl.mono (fun r M1 e => ?_))
          obtain ⟨rfl, rfl⟩ := e
          refine ⟨fun g => absurd ((q_le (by omega) (by omega)).mp g) (by omega), fun _ => ?_⟩
          have ki := k2 i hi2
          rw [if_neg (by omega)] at ki
          obtain ⟨s1, s2⟩ := g_kdE_step (m := m + 1) (kd := kd) (nu := nu) (c := i)
          have hk3 := (hw.2.2.2.2.1 i hi2).1
          have hE3 : g_kdE (m + 2) kd nu i ≤ 3 := by unfold g_kdE; split <;> omega
          have keep : g_kdE (m + 1) kd nu i = g_kdE (m + 2) kd nu i → q_Ex X d 145 30 [some (.ref 97), some (.int 0), some (.int (nI (m + 1))), some (.int (nI (i + 1)))] [] M1 (q_ri K) := by
            intro e
            refine ihj (i + 1) M1 (by omega) o2 (fun c hc => ?_)
            rw [k2 c hc]
            by_cases q : c = i
            · subst q; rw [if_neg (by omega), if_pos (by omega), e]
            · rw [q_if _ _ q]
          have zero : g_kdE (m + 1) kd nu i = 0 → q_Ex X d 145 30 [some (.ref 97), some (.int 0), some (.int (nI (m + 1))), some (.int (nI (i + 1)))] [] (q_set M1 99 (45 + 3 * i) 0) (q_ri K) := by
            intro e
            refine ihj (i + 1) _ (by omega) (okset _ _ _ o2 (Or.inr (by omega))) (fun c hc => ?_)
            rw [q_set_ap]
            by_cases q : c = i
            · subst q; rw [if_pos ⟨rfl, rfl⟩, if_pos (by omega), e]; rfl
            · rw [if_neg (by omega), k2 c hc, q_if _ _ q]
          have num : 2 ≤ g_kdE (m + 2) kd nu i → M1 99 (47 + 3 * i) = nI (nu i) ∧ nu i < n := fun q => by
            have q2 := (s2 q).1
            rw [o2.2.2.2.2 (47 + 3 * i) (by omega) (by omega)]
            exact ⟨(hb.2.2.2 i hi2).2.2 q2, (hw.2.2.2.2.1 i hi2).2 q2⟩
          have tail : 2 ≤ g_kdE (m + 2) kd nu i → (nI (nu i) < nI (m + 1) → q_Ex X d 145 30 [some (.ref 97), some (.int 0), some (.int (nI (m + 1))), some (.int (nI i + 1))] [] M1 (q_ri K)) ∧ (¬ nI (nu i) < nI (m + 1) → vp_in ((45 : Int32) + (3 : Int32) * nI i) 135 ∧ q_Ex X d 145 30 [some (.ref 97), some (.int 0), some (.int (nI (m + 1))), some (.int (nI i + 1))] [] (q_set M1 99 (Int32.toNatClampNeg ((45 : Int32) + (3 : Int32) * nI i)) 0) (q_ri K)) := by
            intro q
            obtain ⟨-, nl⟩ := num q
            obtain ⟨q1, q2, q3, q4⟩ := s2 q
            rw [q_lt (by omega) (by omega), nI_1, r_ix0, q_cn (by omega)]
            exact ⟨fun g => keep (by rw [q3 g, q2]), fun g => ⟨q_vi (by omega) (by decide), zero (q4 (by omega))⟩⟩
          refine r_what (by omega) ?_
          rw [ki]
          refine ⟨fun g => ?_, fun g => ?_⟩
          · have e2 : g_kdE (m + 2) kd nu i = 2 := (q_eq (b := 2) (by omega) (by decide)).mp g
            refine r_number (by omega) ?_
            rw [(num (by omega)).1]
            exact tail (by omega)
          · refine r_what (by omega) ?_
            rw [ki]
            refine ⟨fun g2 => ?_, fun g2 => ?_⟩
            · have n2 : g_kdE (m + 2) kd nu i ≠ 2 := fun e => g (by rw [e]; rfl)
              have n3 : g_kdE (m + 2) kd nu i ≠ 3 := fun e => g2 (by rw [e]; rfl)
              have e9 : g_kdE (m + 2) kd nu i < 2 := by omega
              rw [nI_1]
              exact keep (s1 e9)
            · have e2 : g_kdE (m + 2) kd nu i = 3 := (q_eq (b := 3) (by omega) (by decide)).mp g2
              refine r_number (by omega) ?_
              rw [(num (by omega)).1]
              exact tail (by omega)
      exact cells (R * C) 0 M1 (by omega) o1 (fun c hc => by rw [if_neg (by omega)]; exact k1 c hc)
  refine vc145 (by omega) (r_cp.1 (fun M1 f1 f2 f3 => ?_))
  rw [f1 99 (by decide), hb.2.2.1]
  refine loop n M1 (Nat.le_refl n) ⟨fun k hk => f1 k (by omega), by rw [f1 97 (by decide)], by rw [f1 97 (by decide)], f2, fun j _ _ => by rw [f1 99 (by decide)]⟩ (fun c hc => ?_) h
  rw [f1 99 (by decide), (hb.2.2.2 c hc).1]
  congr 1
  unfold g_kdE
  rw [if_neg (fun q => by have := (hw.2.2.2.2.1 c hc).2 q.1; omega)]
end RFew
