/-- the study of a slope is made -/
def s_ok (M : q_M) (n N : Nat) (co nu dc wc : Nat → Nat) (W : Nat → List (List Nat)) : Prop :=
  M 64 0 = nI ((g_sel W n 0 0).foldl t_ms (0, 0)).1 ∧ (∃ b, b < 2 ^ 30 ∧ M 64 1 = nI b ∧ ∀ i, b.testBit i = (((g_sel W n 0 0).foldl t_ms (0, 0)).2.testBit i && !((List.range n).any fun e => decide (i = dc e) || decide (i = wc e)))) ∧ ∀ p, p < 9 → s_p M N co p (t_F n nu p (g_sel W n 0 0))
theorem s_ok.eq {M M' : q_M} {n N : Nat} {co nu dc wc : Nat → Nat} {W : Nat → List (List Nat)} (h : s_ok M n N co nu dc wc W) (hk : ∀ k, 64 ≤ k → k ≤ 87 → M' k = M k) : s_ok M' n N co nu dc wc W := by
  obtain ⟨h1, h2, h3⟩ := h
  refine ⟨by rw [hk 64 (by omega) (by omega)]; exact h1, by rw [hk 64 (by omega) (by omega)]; exact h2, fun p hp => ?_⟩
  have := h3 p hp
  unfold s_p at this ⊢
  rw [hk 66 (by omega) (by omega), hk 67 (by omega) (by omega), hk (69 + p) (by omega) (by omega), hk (79 + p) (by omega) (by omega)]
  exact this
section Make
variable {X : Nat × (Nat → Int32)} {R C n : Nat} {kd co nu dc wc : Nat → Nat}
theorem c_make (hw : b_wf R C n kd co nu dc wc) {W : Nat → List (List Nat)} {d : Nat} {M : q_M} {K : q_M → Prop} (hd : 12 ≤ d) (hb : b_now M R C n kd co nu dc wc) (hn : M 44 1 = nI n) (hWl : ∀ dr, dr < n → (W dr).length ≤ 126) (hWp : ∀ dr, dr < n → ∀ p ∈ W dr, g_wyOk (R * C) n nu wc p) (hwa : ∀ dr, dr < n → w_at M 45 47 51 dr nu (W dr)) (h : ∀ M', (∀ k, k < 64 ∨ 87 < k → M' k = M k) → s_ok M' n (R * C) co nu dc wc W → K M') : q_Cv X d 30 [.ref 64] M K := by
  have hRC := b_RC hw
  have hn3 := hw.2.2.1
  refine vc30 ?_
  -- the end: doors and wells don't shut
  have fin : ∀ M2 : q_M, (∀ k, k < 64 ∨ 87 < k → M2 k = M k) → u_at M2 n (R * C) co nu (g_sel W n 0 0) → q_Ex X d 30 70 [some (.ref 64), some (.int 0)] [] M2 (q_rn K) := by
    intro M2 f2 u2
    have hsel : ∀ y ∈ g_sel W n 0 0, y.length ≤ n ∧ t_bits y < 2 ^ 30 := fun y hy => by
      obtain ⟨y1, y2⟩ := g_sel_ok W n 0 0 y hy
      refine ⟨by omega, t_bits_lt (N := R * C) (fun q hq c hc => ?_) hRC⟩
      obtain ⟨e, e1, e2, e3⟩ := y2 q hq
      exact (hWp e (by omega) q e3).1 c hc
    obtain ⟨m1, m2⟩ := t_ms_lt _ hsel
    have loop : ∀ (j i b : Nat) (M3 : q_M), i + j = n → (∀ k, k ≠ 64 → M3 k = M2 k) → M3 64 0 = M2 64 0 → b < 2 ^ 30 → M3 64 1 = nI b → (∀ t, b.testBit t = (((g_sel W n 0 0).foldl t_ms (0, 0)).2.testBit t && !((List.range i).any fun e => decide (t = dc e) || decide (t = wc e)))) → q_Ex X d 30 70 [some (.ref 64), some (.int (nI i))] [] M3 (q_rn K) := by
      intro j
      induction j with
      | zero =>
        intro i b M3 hi g1 g2 g3 g4 g5
        have hb3 : M3 11 4 = nI n := by rw [g1 11 (by decide), f2 11 (by omega)]; exact hb.2.2.2.2.1
        refine vc30_p70 (by omega) ⟨fun _ => h M3 (fun k hk => by rw [g1 k (by omega)]; exact f2 k hk) ⟨by rw [g2]; exact u2.1, ⟨b, g3, g4, fun t => by rw [g5 t, show i = n by omega]⟩, fun p hp => ?_⟩, fun g => absurd (by rw [hb3, q_le (by omega) (by omega)]; omega) g⟩
        have := u2.2.2 p hp
        unfold s_p at this ⊢
        rw [g1 66 (by decide), g1 67 (by decide), g1 (69 + p) (by omega), g1 (79 + p) (by omega)]
        exact this
      | succ j ih =>
        intro i b M3 hi g1 g2 g3 g4 g5
        have hb3 : b_now M3 R C n kd co nu dc wc := hb.eq (fun k a c => by rw [g1 k (by omega)]; exact f2 k (by omega))
        obtain ⟨d1, -, -, d4, -, -⟩ := hw.2.2.2.2.2.1 i (by omega)
        refine vc30_p70 (by omega) ⟨fun g => ?_, fun _ => ?_⟩
        · rw [hb3.2.2.2.2.1, q_le (by omega) (by omega)] at g; omega
        · refine c_cellOfDoor hw (by omega) hb3 (by omega) (c_cellOfWell hw (by omega) hb3 (by omega) ?_)
          obtain ⟨b1, p1, p2, p3⟩ := n_clr1 (c := dc i) g3 (by omega)
          obtain ⟨b2, q1, q2, q3⟩ := n_clr1 (c := wc i) p1 (by omega)
          rw [g4, ← Int32.and_assoc, p2, q2, nI_1]
          refine ih (i + 1) b2 _ (by omega) (fun k hk => by rw [q_set_n hk]; exact g1 k hk) (by rw [q_set_ap, if_neg (by omega)]; exact g2) q1 (by rw [q_set_ap, if_pos ⟨rfl, rfl⟩]) (fun t => ?_)
          rw [q3 t, p3 t, g5 t, List.range_succ, List.any_append]
          simp only [List.any_cons, List.any_nil, Bool.or_false]
          generalize ((g_sel W n 0 0).foldl t_ms (0, 0)).2.testBit t = a1
          generalize ((List.range i).any fun e => decide (t = dc e) || decide (t = wc e)) = a2
          generalize decide (t = dc i) = a3
          generalize decide (t = wc i) = a4
          cases a1 <;> cases a2 <;> cases a3 <;> cases a4 <;> rfl
    exact loop n 0 _ M2 (by omega) (fun _ _ => rfl) rfl m2 u2.2.1 (fun t => by simp)
  have loop : ∀ (j i : Nat) (M1 : q_M), i + j = 9 → (∀ k, k < 64 ∨ 87 < k → M1 k = M k) → M1 64 0 = 0 → M1 64 1 = 0 → (∀ p, p < i → s_p M1 (R * C) co p []) → q_Ex X d 30 12 [some (.ref 64), some (.int (nI i))] [] M1 (q_rn K) := by
    intro j
    induction j with
    | zero =>
      intro i M1 hi g1 g2 g3 g4
      refine vc30_p12 (by omega) ⟨fun _ => ?_, fun g => absurd ((q_le (a := 9) (by omega) (by omega)).mpr (by omega)) g⟩
      have hcnt := g_sel_cnt W n 0 0 (fun e he => hWl e (by omega))
      have hp3 : 127 ^ n ≤ 127 ^ 3 := Nat.pow_le_pow_right (by decide) hn3
      have hF0 : (g_sel W n 0 (t_bits [])).map ([] ++ ·) = g_sel W n 0 0 := by
        rw [show t_bits [] = 0 from rfl]
        simp
      refine c_choose hw hWl hWp n 0 (d - 1) [] M1 [] _ (by omega) (by omega) rfl (fun dr q hq => by simp at hq) (fun q hq => by simp at hq) (hb.eq (fun k a c => g1 k (by omega))) (by rw [g1 44 (by omega)]; exact hn) (fun dr hdr => ?_) ⟨g2, g3, fun p hp => g4 p (by omega)⟩ (fun y hy => by simp at hy) (by rw [hF0]; simp; omega) (fun M2 f2 u2 => ?_)
      · have := hwa dr hdr
        unfold w_at at this ⊢
        rw [g1 45 (by omega), g1 (47 + dr) (by omega), g1 (51 + dr) (by omega)]
        exact this
      · rw [hF0, List.nil_append] at u2
        exact fin M2 (fun k hk => by rw [f2.1 k hk]; exact g1 k hk) u2
    | succ j ih =>
      intro i M1 hi g1 g2 g3 g4
      have hv9 : vp_in (nI i) 9 := q_vi (by omega) (by decide)
      refine vc30_p12 (by omega) ⟨fun g => absurd ((q_le (a := 9) (by omega) (by omega)).mp g) (by omega), fun _ => ⟨hv9, hv9, hv9, ?_⟩⟩
      have l1 := rw68 hv9
      have l2 := rw78 hv9
      rw [q_cn (by omega)] at l1 l2
      rw [q_cn (by omega), nI_1]
      refine c_afill l1 (by decide) (fun M4 a1 a2 => ⟨hv9, c_afill l2 (by decide) (fun M6 b1 b2 => ?_)⟩)
      have e4 : ∀ k, k ≠ 66 → k ≠ 67 → k ≠ 69 + i → k ≠ 79 + i → M6 k = M1 k := fun k c1 c2 c3 c4 => by rw [b1 k c4, a1 k c3, q_set_n c2, q_set_n c1]
      refine ih (i + 1) M6 (by omega) (fun k hk => by rw [e4 k (by omega) (by omega) (by omega) (by omega)]; exact g1 k hk) (by rw [e4 64 (by omega) (by omega) (by omega) (by omega)]; exact g2) (by rw [e4 64 (by omega) (by omega) (by omega) (by omega)]; exact g3) (fun p hp => ?_)
      by_cases e : p = i
      · subst e
        refine ⟨?_, ?_, fun c hc => ⟨?_, ?_⟩⟩
        · rw [b1 66 (by omega), a1 66 (by omega), q_set_n (by decide), q_set_ap, if_pos ⟨rfl, rfl⟩]; rfl
        · rw [b1 67 (by omega), a1 67 (by omega), q_set_ap, if_pos ⟨rfl, rfl⟩]; rfl
        · rw [b1 (69 + p) (by omega)]; exact a2 c (by omega)
        · exact b2 c (by omega)
      · have := g4 p (by omega)
        unfold s_p at this ⊢
        rw [e4 (69 + p) (by omega) (by omega) (by omega) (by omega), e4 (79 + p) (by omega) (by omega) (by omega) (by omega), b1 66 (by omega), a1 66 (by omega), q_set_n (by decide), q_set_ap, if_neg (by omega), b1 67 (by omega), a1 67 (by omega), q_set_ap, if_neg (by omega), q_set_n (by decide)]
        exact this
  exact loop 9 0 _ (by omega) (fun k hk => by rw [q_set_n (by omega), q_set_n (by omega)]) (by simp [q_set_ap]) (by simp [q_set_ap]) (fun p hp => by omega)
end Make
