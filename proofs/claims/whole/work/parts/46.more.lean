/-! images, counts, slopes -/
theorem c_copyS24 {X : Nat × (Nat → Int32)} {d R C n : Nat} {kd co nu dc wc : Nat → Nat} {M : q_M} {K : q_M → Prop} (hd : 0 < d) (hw : b_wf R C n kd co nu dc wc) (hb : b_c M 11 (11 + 1) (11 + 2) (11 + 3) (11 + 4) (11 + 5) R C n kd co nu dc wc) (h : ∀ M', (∀ k, (k < 25 ∨ 25 + 5 < k) → M' k = M k) → b_c M' 25 (25 + 1) (25 + 2) (25 + 3) (25 + 4) (25 + 5) R C n kd co nu dc wc → K M') : q_Cv X d 15 [.ref 25, .ref 11] M K := by
  have hRC := b_RC hw
  have hn3 := hw.2.2.1
  obtain ⟨r0, r1, r2, r3, r4, r5, r6⟩ := hb
  refine vc15_25_11 hd (h _ (fun k hk => ?_) ⟨?_, ?_, ?_, ?_, ?_, fun c hc => ?_, fun e he => ?_⟩)
  · rw [q_row_n (by omega), q_row_n (by omega), q_row_n (by omega), q_row_n (by omega), q_row_n (by omega), q_set_n (by omega), q_set_n (by omega), q_set_n (by omega), q_set_n (by omega), q_set_n (by omega)]
  · simp [q_set_ap, q_row_ap, r0]
  · simp [q_set_ap, q_row_ap, r1]
  · simp [q_set_ap, q_row_ap, r2]
  · simp [q_set_ap, q_row_ap, r3]
  · simp [q_set_ap, q_row_ap, r4]
  · obtain ⟨b1, b2, b3⟩ := r5 c hc
    have h30 : c < 30 := by omega
    simp only [Nat.reduceAdd] at b1 b2 b3
    simp [q_set_ap, q_row_ap, q_cpy_ap, h30, b1, b2, b3]
  · obtain ⟨b1, b2⟩ := r6 e he
    have h3 : e < 3 := by omega
    simp only [Nat.reduceAdd] at b1 b2
    simp [q_set_ap, q_row_ap, q_cpy_ap, h3, b1, b2]
theorem c_copyH24 {X : Nat × (Nat → Int32)} {d : Nat} {h : p_T} {M : q_M} {K : q_M → Prop} (hd : 2 ≤ d) (ho : h_ok h) (hc : h_c M 10 11 18 19 21 h) (hK : ∀ M', (∀ k, (k < 24 ∨ 24 + 13 < k) → M' k = M k) → h_c M' 24 25 32 33 35 h → K M') : q_Cv X d 3 [.ref 24, .ref 10] M K := by
  obtain ⟨R, C, n, kd, co, nu, dc, wc, num, w, o, ks, se, ln, st⟩ := h
  obtain ⟨d1, d2, d3, d4, d5, d6, d7⟩ := hc
  have hks := ho.2.2.2.2.2.1
  refine vc3_24_10 (by omega) (c_copyS24 (by omega) ho.1 d1 (fun M1 f1 b1 => ?_))
  rw [f1 10 (by omega), f1 18 (by omega), f1 19 (by omega), d2, d3, d4, d5]
  generalize hM2 : q_row (q_row (q_set (q_set (q_set (q_set M1 24 1 (nI num)) 24 2 (nI w)) 24 3 (nI o)) 24 4 (nI ks)) 32 (va_cpy (M 18) (M1 32) 0 0 4)) 33 (va_cpy (M 19) (M1 33) 0 0 3) = M2
  have f2 : ∀ k, k ≠ 24 → k ≠ 32 → k ≠ 33 → M2 k = M1 k := fun k a b c => by rw [← hM2, q_row_n c, q_row_n b, q_set_n a, q_set_n a, q_set_n a, q_set_n a]
  have g1 : M2 24 1 = nI num ∧ M2 24 2 = nI w ∧ M2 24 3 = nI o ∧ M2 24 4 = nI ks := by
    rw [← hM2]
    refine ⟨by simp [q_set_ap, q_row_ap], by simp [q_set_ap, q_row_ap], by simp [q_set_ap, q_row_ap], by simp [q_set_ap, q_row_ap]⟩
  have g2 : ∀ j, j < ks → M2 32 j = nI (se j) := fun j hj => by
    rw [← hM2, q_row_n (by decide), q_row_s, q_cpy_ap, if_pos (by omega)]
    exact d6 j hj
  have g3 : ∀ e, e < 3 → M2 33 e = nI (ln e) := fun e he => by
    rw [← hM2, q_row_s, q_cpy_ap, if_pos he]
    exact (d7 e he).1
  have loop : ∀ (j i : Nat) (M3 : q_M), i + j = 3 → (∀ k, (k < 35 ∨ 35 + 2 < k) → M3 k = M2 k) → (∀ e, e < i → ∀ x, x < 10 → M3 (35 + e) x = M (21 + e) x) → q_Ex X d 3 73 [some (.ref 24), some (.ref 10), some (.int (nI i))] [] M3 (q_rn K) := by
    intro j
    induction j with
    | zero =>
      intro i M3 hi f3 c3
      refine vc3_24_10_p73 (by omega) ⟨fun _ => ?_, fun q => absurd ((q_le (a := 3) (by decide) (by omega)).mpr (by omega)) q⟩
      refine hK M3 (fun k hk => by rw [f3 k (by omega), f2 k (by omega) (by omega) (by omega), f1 k (by omega)]) ⟨?_, by rw [f3 24 (by omega)]; exact g1.1, by rw [f3 24 (by omega)]; exact g1.2.1, by rw [f3 24 (by omega)]; exact g1.2.2.1, by rw [f3 24 (by omega)]; exact g1.2.2.2, fun j hj => by rw [f3 32 (by omega)]; exact g2 j hj, fun e he => ⟨by rw [f3 33 (by omega)]; exact g3 e he, fun j hj => ?_⟩⟩
      · have e : ∀ k, 25 ≤ k → k ≤ 25 + 5 → M3 k = M1 k := fun k a b => by rw [f3 k (by omega), f2 k (by omega) (by omega) (by omega)]
        unfold b_c at b1 ⊢
        rw [e 25 (by omega) (by omega), e (25 + 1) (by omega) (by omega), e (25 + 2) (by omega) (by omega), e (25 + 3) (by omega) (by omega), e (25 + 4) (by omega) (by omega), e (25 + 5) (by omega) (by omega)]
        exact b1
      · have := (ho.2.2.2.2.2.2.2 e he).1
        rw [c3 e (by omega) j (by omega)]
        exact (d7 e he).2 j hj
    | succ j ih =>
      intro i M3 hi f3 c3
      refine vc3_24_10_p73 (by omega) ⟨fun q => absurd ((q_le (a := 3) (by decide) (by omega)).mp q) (by omega), fun _ => ⟨q_vi (by omega) (by decide), q_vi (by omega) (by decide), ?_⟩⟩
      rw [q_cn (by omega), nI_1]
      refine ih (i + 1) _ (by omega) (fun k hk => by rw [q_row_n (by omega)]; exact f3 k hk) (fun e he x hx => ?_)
      by_cases q : e = i
      · subst q
        rw [q_row_s, q_cpy_ap, if_pos hx, f3 (21 + e) (by omega), f2 (21 + e) (by omega) (by omega) (by omega), f1 (21 + e) (by omega)]
      · rw [q_row_n (by omega)]
        exact c3 e (by omega) x hx
  exact loop 3 0 M2 (by decide) (fun _ _ => rfl) (fun e he => by omega)

theorem c_copyS10 {X : Nat × (Nat → Int32)} {d R C n : Nat} {kd co nu dc wc : Nat → Nat} {M : q_M} {K : q_M → Prop} (hd : 0 < d) (hw : b_wf R C n kd co nu dc wc) (hb : b_c M 25 (25 + 1) (25 + 2) (25 + 3) (25 + 4) (25 + 5) R C n kd co nu dc wc) (h : ∀ M', (∀ k, (k < 11 ∨ 11 + 5 < k) → M' k = M k) → b_c M' 11 (11 + 1) (11 + 2) (11 + 3) (11 + 4) (11 + 5) R C n kd co nu dc wc → K M') : q_Cv X d 15 [.ref 11, .ref 25] M K := by
  have hRC := b_RC hw
  have hn3 := hw.2.2.1
  obtain ⟨r0, r1, r2, r3, r4, r5, r6⟩ := hb
  refine vc15_11_25 hd (h _ (fun k hk => ?_) ⟨?_, ?_, ?_, ?_, ?_, fun c hc => ?_, fun e he => ?_⟩)
  · rw [q_row_n (by omega), q_row_n (by omega), q_row_n (by omega), q_row_n (by omega), q_row_n (by omega), q_set_n (by omega), q_set_n (by omega), q_set_n (by omega), q_set_n (by omega), q_set_n (by omega)]
  · simp [q_set_ap, q_row_ap, r0]
  · simp [q_set_ap, q_row_ap, r1]
  · simp [q_set_ap, q_row_ap, r2]
  · simp [q_set_ap, q_row_ap, r3]
  · simp [q_set_ap, q_row_ap, r4]
  · obtain ⟨b1, b2, b3⟩ := r5 c hc
    have h30 : c < 30 := by omega
    simp only [Nat.reduceAdd] at b1 b2 b3
    simp [q_set_ap, q_row_ap, q_cpy_ap, h30, b1, b2, b3]
  · obtain ⟨b1, b2⟩ := r6 e he
    have h3 : e < 3 := by omega
    simp only [Nat.reduceAdd] at b1 b2
    simp [q_set_ap, q_row_ap, q_cpy_ap, h3, b1, b2]
theorem c_copyH10 {X : Nat × (Nat → Int32)} {d : Nat} {h : p_T} {M : q_M} {K : q_M → Prop} (hd : 2 ≤ d) (ho : h_ok h) (hc : h_c M 24 25 32 33 35 h) (hK : ∀ M', (∀ k, (k < 10 ∨ 10 + 13 < k) → M' k = M k) → h_c M' 10 11 18 19 21 h → K M') : q_Cv X d 3 [.ref 10, .ref 24] M K := by
  obtain ⟨R, C, n, kd, co, nu, dc, wc, num, w, o, ks, se, ln, st⟩ := h
  obtain ⟨d1, d2, d3, d4, d5, d6, d7⟩ := hc
  have hks := ho.2.2.2.2.2.1
  refine vc3_10_24 (by omega) (c_copyS10 (by omega) ho.1 d1 (fun M1 f1 b1 => ?_))
  rw [f1 24 (by omega), f1 32 (by omega), f1 33 (by omega), d2, d3, d4, d5]
  generalize hM2 : q_row (q_row (q_set (q_set (q_set (q_set M1 10 1 (nI num)) 10 2 (nI w)) 10 3 (nI o)) 10 4 (nI ks)) 18 (va_cpy (M 32) (M1 18) 0 0 4)) 19 (va_cpy (M 33) (M1 19) 0 0 3) = M2
  have f2 : ∀ k, k ≠ 10 → k ≠ 18 → k ≠ 19 → M2 k = M1 k := fun k a b c => by rw [← hM2, q_row_n c, q_row_n b, q_set_n a, q_set_n a, q_set_n a, q_set_n a]
  have g1 : M2 10 1 = nI num ∧ M2 10 2 = nI w ∧ M2 10 3 = nI o ∧ M2 10 4 = nI ks := by
    rw [← hM2]
    refine ⟨by simp [q_set_ap, q_row_ap], by simp [q_set_ap, q_row_ap], by simp [q_set_ap, q_row_ap], by simp [q_set_ap, q_row_ap]⟩
  have g2 : ∀ j, j < ks → M2 18 j = nI (se j) := fun j hj => by
    rw [← hM2, q_row_n (by decide), q_row_s, q_cpy_ap, if_pos (by omega)]
    exact d6 j hj
  have g3 : ∀ e, e < 3 → M2 19 e = nI (ln e) := fun e he => by
    rw [← hM2, q_row_s, q_cpy_ap, if_pos he]
    exact (d7 e he).1
  have loop : ∀ (j i : Nat) (M3 : q_M), i + j = 3 → (∀ k, (k < 21 ∨ 21 + 2 < k) → M3 k = M2 k) → (∀ e, e < i → ∀ x, x < 10 → M3 (21 + e) x = M (35 + e) x) → q_Ex X d 3 73 [some (.ref 10), some (.ref 24), some (.int (nI i))] [] M3 (q_rn K) := by
    intro j
    induction j with
    | zero =>
      intro i M3 hi f3 c3
      refine vc3_10_24_p73 (by omega) ⟨fun _ => ?_, fun q => absurd ((q_le (a := 3) (by decide) (by omega)).mpr (by omega)) q⟩
      refine hK M3 (fun k hk => by rw [f3 k (by omega), f2 k (by omega) (by omega) (by omega), f1 k (by omega)]) ⟨?_, by rw [f3 10 (by omega)]; exact g1.1, by rw [f3 10 (by omega)]; exact g1.2.1, by rw [f3 10 (by omega)]; exact g1.2.2.1, by rw [f3 10 (by omega)]; exact g1.2.2.2, fun j hj => by rw [f3 18 (by omega)]; exact g2 j hj, fun e he => ⟨by rw [f3 19 (by omega)]; exact g3 e he, fun j hj => ?_⟩⟩
      · have e : ∀ k, 11 ≤ k → k ≤ 11 + 5 → M3 k = M1 k := fun k a b => by rw [f3 k (by omega), f2 k (by omega) (by omega) (by omega)]
        unfold b_c at b1 ⊢
        rw [e 11 (by omega) (by omega), e (11 + 1) (by omega) (by omega), e (11 + 2) (by omega) (by omega), e (11 + 3) (by omega) (by omega), e (11 + 4) (by omega) (by omega), e (11 + 5) (by omega) (by omega)]
        exact b1
      · have := (ho.2.2.2.2.2.2.2 e he).1
        rw [c3 e (by omega) j (by omega)]
        exact (d7 e he).2 j hj
    | succ j ih =>
      intro i M3 hi f3 c3
      refine vc3_10_24_p73 (by omega) ⟨fun q => absurd ((q_le (a := 3) (by decide) (by omega)).mp q) (by omega), fun _ => ⟨q_vi (by omega) (by decide), q_vi (by omega) (by decide), ?_⟩⟩
      rw [q_cn (by omega), nI_1]
      refine ih (i + 1) _ (by omega) (fun k hk => by rw [q_row_n (by omega)]; exact f3 k hk) (fun e he x hx => ?_)
      by_cases q : e = i
      · subst q
        rw [q_row_s, q_cpy_ap, if_pos hx, f3 (35 + e) (by omega), f2 (35 + e) (by omega) (by omega) (by omega), f1 (35 + e) (by omega)]
      · rw [q_row_n (by omega)]
        exact c3 e (by omega) x hx
  exact loop 3 0 M2 (by decide) (fun _ _ => rfl) (fun e he => by omega)

theorem h_r.same {s s' : Nat → Int32} {h : p_T} (ho : h_ok h) (hr : h_r s h) (e : ∀ j, j < 135 → s' j = s j) : h_r s' h := by
  obtain ⟨R, C, n, kd, co, nu, dc, wc, num, w, o, ks, se, ln, st⟩ := h
  obtain ⟨⟨a1, a2, a3, a4⟩, a5, a6, a7, a8, a9⟩ := hr
  have hRC := b_RC ho.1
  have hn3 := ho.1.2.2.1
  have hks := ho.2.2.2.2.2.1
  refine ⟨⟨by rw [e 0 (by decide)]; exact a1, by rw [e 1 (by decide)]; exact a2, by rw [e 2 (by decide)]; exact a3, fun c hc => by rw [e _ (by omega), e _ (by omega), e _ (by omega)]; exact a4 c hc⟩, by rw [e 3 (by decide)]; exact a5, fun d hd => by rw [e _ (by omega)]; exact a6 d hd, by rw [e 7 (by decide)]; exact a7, fun j hj => by rw [e _ (by omega)]; exact a8 j hj, fun d hd => ?_⟩
  have := (ho.2.2.2.2.2.2.2 d hd).1
  exact ⟨by rw [e _ (by omega)]; exact (a9 d hd).1, fun j hj => by rw [e _ (by omega)]; exact (a9 d hd).2 j hj⟩
def h_N : p_T → Nat
  | (R, C, _) => R * C
theorem h_c.N {M : q_M} {iH iS iSe iL iSt : Nat} {h : p_T} (hc : h_c M iH iS iSe iL iSt h) : M iS 2 = nI (h_N h) := by
  obtain ⟨R, C, n, kd, co, nu, dc, wc, num, w, o, ks, se, ln, st⟩ := h
  exact hc.1.2.2.1
theorem r_cellsH {X : Nat × (Nat → Int32)} {d : Nat} {M : q_M} {h : p_T} {K : Int32 → q_M → Prop} (hr : h_r (M 99) h) (hk : K (nI (h_N h)) M) : q_Ci X d 95 [.ref 97] M K := by
  obtain ⟨R, C, n, kd, co, nu, dc, wc, num, w, o, ks, se, ln, st⟩ := h
  refine vc95 ?_
  rw [hr.1.1, hr.1.2.1, pk_mul]
  exact hk
section Calls5
variable {X : Nat × (Nat → Int32)} {t d : Nat} {M : q_M} {K : Int32 → Int32 → q_M → Prop}
theorem call_image (hd : 100 ≤ d) (ht : t < 600) (hI : Inv t M) (hK : ∀ r M', Inv (t + 1) M' → K r r M') : q_two X d 69 152 [.ref 0] [.ref 97] M K := by
  obtain ⟨L, S, tp, rf, h, g, img, hP, hC, hR⟩ := hI
  have ho := hP.2.2.2.2.2.1
  refine vc69 (by omega) (c_copyH24 (by omega) ho hC.2.2.2.2.2.1 (fun M1 f1 c1 => ?_))
  have e11 : M1 11 2 = nI (h_N h) := by rw [f1 11 (by omega)]; exact hC.2.2.2.2.2.1.N
  rw [e11]
  have hR1 : IR (q_set M1 0 6 1) L tp rf h g img := hR.lo (fun k hk => by rw [q_set_n (by omega), f1 k (by omega)])
  refine vc152 (by omega) (r_cp.2.2.1 (fun M2 f2 g2 k2 => ?_))
  have h99 : h_r ((q_set M2 97 4 1) 99) h := by rw [q_set_n (by decide), f2 99 (by decide)]; exact hR1.2.2.2.1
  refine r_cellsH h99 (hK _ _ ⟨L, S, tp, rf, h, h, true, ?_, ?_, ?_⟩)
  · obtain ⟨p1, p2, p3, p4, p5, p6, p7⟩ := hP
    exact ⟨p1, p2, by omega, by omega, p5, p6, fun _ => ⟨p5, p6, fun _ _ z => z⟩⟩
  · have eH : ∀ k, k ≠ 0 → (k < 24 ∨ 37 < k) → k < 97 → (q_set M2 97 4 1) k = M k := fun k a b c => by rw [q_set_n (by omega), f2 k (by omega), q_set_n a, f1 k (by omega)]
    have e0 : ∀ j, j ≠ 6 → (q_set M2 97 4 1) 0 j = M 0 j := fun j hj => by rw [q_set_n (by decide), f2 0 (by decide), q_set_ap, if_neg (by omega), f1 0 (by omega)]
    obtain ⟨c1', c2, c3, c4, c5, c6, c7, c8, c9, c10⟩ := hC
    have hk : (q_set M2 97 4 1) 0 15 = nI (h_num h) → h_k (q_set M2 97 4 1) h := fun q => (c8 (by rw [e0 15 (by decide)] at q; exact q)).eq ho (fun k a b => eH k (by omega) (by omega) (by omega))
    refine ⟨by rw [e0 1 (by decide)]; exact c1', fun j hj => by rw [eH 1 (by decide) (by omega) (by decide)]; exact c2 j hj, fun j a b => by rw [eH 2 (by decide) (by omega) (by decide)]; exact c3 j a b, by rw [e0 14 (by decide)]; exact c4, by rw [e0 15 (by decide)]; exact c5, c6.eq (fun k hk => eH k (by omega) (by omega) (by omega)), c7.eq (e0 16 (by decide)) (eH 89 (by decide) (by omega) (by decide)), hk, ?_, fun _ => ⟨c1.eq (fun k hk => by rw [q_set_n (by omega), f2 k (by omega), q_set_n (by omega)]), hk⟩⟩
    rw [q_set_n (by decide), f2 0 (by decide), q_set_ap, if_pos ⟨rfl, rfl⟩]; rfl
  · obtain ⟨c1', c2, c3, c4, c5, c6⟩ := hR1
    refine ⟨by rw [q_set_ap, if_neg (by decide), f2 97 (by decide)]; exact c1', fun j hj => by rw [q_set_n (by decide), f2 102 (by decide)]; exact c2 j hj, fun j a b => by rw [q_set_n (by decide), f2 98 (by decide)]; exact c3 j a b, h99, by rw [q_set_ap, if_pos ⟨rfl, rfl⟩]; rfl, fun _ => ?_⟩
    rw [q_set_n (by decide)]
    exact c4.same ho (fun j hj => g2 j hj)
theorem call_on (hd : 100 ≤ d) (ht : t < 600) (hI : Inv t M) (hK : ∀ r M', Inv (t + 1) M' → K r r M') : q_two X d 70 153 [.ref 0] [.ref 97] M K := by
  obtain ⟨L, S, tp, rf, h, g, img, hP, hC, hR⟩ := hI
  have e06 : M 0 6 = g_im img := hC.2.2.2.2.2.2.2.2.1
  have e974 : ∀ M2 : q_M, (∀ k, 97 ≤ k → M2 k = M k) → M2 97 4 = g_im img := fun M2 f => by rw [f 97 (by decide)]; exact hR.2.2.2.2.1
  refine vc70 (by omega) ?_
  rw [e06]
  cases img with
  | false =>
    refine ⟨fun q => absurd rfl q, fun _ => cx_ref (p := 3) rfl (by decide) (by decide) hP hC (fun M2 f2 C2 => ?_)⟩
    refine vc153 (by omega) ?_
    rw [e974 M2 (fun k hk => f2 k (by omega))]
    exact ⟨fun q => absurd rfl q, fun _ => Inv.refR ht (p := 3) rfl (by decide) (by decide) hP C2 (hR.lo (fun k hk => f2 k (by omega))) (fun M4 I4 => hK _ M4 I4)⟩
  | true =>
    obtain ⟨k1, k2, k3⟩ := hP.2.2.2.2.2.2 rfl
    obtain ⟨m1, m2⟩ := hC.2.2.2.2.2.2.2.2.2 rfl
    refine ⟨fun _ => c_copyH10 (by omega) k2 m1 (fun M1 f1 c1 => ?_), fun q => absurd q (by decide)⟩
    have F1 : ∀ k, 97 ≤ k → (q_set M1 0 16 (-1)) k = M k := fun k hk => by rw [q_set_n (by omega), f1 k (by omega)]
    rw [c1.N]
    refine vc153 (by omega) ?_
    rw [e974 _ F1]
    refine ⟨fun _ => r_cp.2.2.2 (fun M2 f2 g2 k2' => ?_), fun q => absurd q (by decide)⟩
    have R1 := hR.lo F1
    have h99 : h_r (M2 99) g := (R1.2.2.2.2.2 rfl).same k2 (fun j hj => g2 j hj)
    refine r_cellsH h99 (hK _ _ ⟨L, S, tp, rf, g, g, true, ?_, ?_, ?_⟩)
    · obtain ⟨p1, p2, p3, p4, p5, p6, p7⟩ := hP
      exact ⟨p1, p2, by omega, by omega, k1, k2, fun _ => ⟨k1, k2, fun _ _ z => z⟩⟩
    · have eH : ∀ k, k ≠ 0 → (k < 10 ∨ 23 < k) → k < 97 → M2 k = M k := fun k a b c => by rw [f2 k (by omega), q_set_n a, f1 k (by omega)]
      have e0 : ∀ j, j ≠ 16 → M2 0 j = M 0 j := fun j hj => by rw [f2 0 (by decide), q_set_ap, if_neg (by omega), f1 0 (by omega)]
      obtain ⟨c1', c2, c3, c4, c5, c6, c7, c8, c9, c10⟩ := hC
      have hk : M2 0 15 = nI (h_num g) → h_k M2 g := fun q => (m2 (by rw [e0 15 (by decide)] at q; exact q)).eq k2 (fun k a b => eH k (by omega) (by omega) (by omega))
      refine ⟨by rw [e0 1 (by decide)]; exact c1', fun j hj => by rw [eH 1 (by decide) (by omega) (by decide)]; exact c2 j hj, fun j a b => by rw [eH 2 (by decide) (by omega) (by decide)]; exact c3 j a b, by rw [e0 14 (by decide)]; exact c4, by rw [e0 15 (by decide)]; exact c5, c1.eq (fun k hk => by rw [f2 k (by omega), q_set_n (by omega)]), Or.inl ?_, hk, by rw [e0 6 (by decide)]; exact c9, fun _ => ⟨m1.eq (fun k hk => eH k (by omega) (by omega) (by omega)), hk⟩⟩
      rw [f2 0 (by decide), q_set_ap, if_pos ⟨rfl, rfl⟩]
    · obtain ⟨c1', c2, c3, c4, c5, c6⟩ := R1
      exact ⟨by rw [f2 97 (by decide)]; exact c1', fun j hj => by rw [f2 102 (by decide)]; exact c2 j hj, fun j a b => by rw [f2 98 (by decide)]; exact c3 j a b, h99, by rw [f2 97 (by decide)]; exact c5, fun _ => by rw [f2 100 (by decide)]; exact c6 rfl⟩
theorem call_count {a : Int32} (hd : 100 ≤ d) (ht : t < 600) (hI : Inv t M) (hK : ∀ r M', Inv (t + 1) M' → K r r M') : q_two X d 71 154 [.ref 0, .int a] [.ref 97, .int a] M K := by
  obtain ⟨L, S, tp, rf, h, g, img, hP, hC, hR⟩ := hI
  obtain ⟨R, C, n, kd, co, nu, dc, wc, num, w, o, ks, se, ln, st⟩ := h
  have ho := hP.2.2.2.2.2.1
  have hw := ho.1
  have hRC := b_RC hw
  have hR6 := hw.1
  have hn3 := hw.2.2.1
  obtain ⟨hq, hsn, htw⟩ := h_c.q ho hC.2.2.2.2.2.1 hC.2.2.2.2.2.2.2.1
  have hb := hq.1
  have hco : ∀ c, c < R * C → co c ≤ 9 := fun c hc => (hw.2.2.2.2.1 c hc).2.1
  have RB : ∀ M2 : q_M, (∀ k, 97 ≤ k → M2 k = M k) → r_b M2 R C n kd co nu ∧ r_st M2 (R * C) n w o ks se ∧ r_tw M2 ln st ∧ IR M2 L tp rf (R, C, n, kd, co, nu, dc, wc, num, w, o, ks, se, ln, st) g img := fun M2 f => ⟨hR.2.2.2.1.b (f 99 (by decide)), (h_r.st ho hR.2.2.2.1 (f 99 (by decide))).1, (h_r.st ho hR.2.2.2.1 (f 99 (by decide))).2, hR.lo f⟩
  have n0 : 0 < R * C → 0 < n ∧ 0 < R := fun q => by
    rcases hw.2.2.2.1 with ⟨z1, z2, z3⟩ | ⟨z1, z2, z3⟩
    · subst z1; omega
    · omega
  have z0 : R * C = 0 → n = 0 ∧ R = 0 := fun q => by
    rcases hw.2.2.2.1 with ⟨z1, z2, z3⟩ | ⟨z1, z2, z3⟩
    · omega
    · have := Nat.mul_le_mul z1 z2; omega
  obtain ⟨d1, d2, d3, d4, d5, d6, d7⟩ := hC.2.2.2.2.2.1
  obtain ⟨b2, s2, t2, R2⟩ := RB M (fun _ _ => rfl)
  have fin : ∀ r : Int32, K r r M := fun r => hK r M (Inv.q ht hP hC R2 (r_fr.rf M))
  have l10 : ∀ v, v < 11 → nI v ≤ 10 := fun v hv => (q_le (b := 10) (by omega) (by decide)).mpr (by omega)
  -- the reference at a small place
  have small : ∀ (r : Int32), (a ≤ 10) → (a = 0 → M 99 0 = r) → (a = 1 → M 99 1 = r) → (a = 2 → M 99 2 = r) → (a = 3 → nI (g_stones kd (R * C)) = r) → (a = 4 → M 99 7 = r) → (a = 5 → M 97 6 = r) → (a = 6 → M 99 3 = r) → (a = 7 → nI o = r) → ((¬ a = 0 ∧ ¬ a = 1 ∧ ¬ a = 2 ∧ ¬ a = 3 ∧ ¬ a = 4 ∧ ¬ a = 5 ∧ ¬ a = 6 ∧ ¬ a = 7) → -9 = r) → q_Ci X d 154 [.ref 97, .int a] M (fun r' M4 => K r r' M4) := by
    intro r ha q0 q1 q2 q3 q4 q5 q6 q7 q8
    refine vc154 (by omega) ⟨fun _ => ⟨fun e => ?_, fun e => ?_, fun e => ?_, fun e => ?_, fun e => by rw [q4 e]; exact fin r, fun e => by rw [q5 e]; exact fin r, fun e => by rw [q6 e]; exact fin r, fun e => ?_, fun e => by rw [q8 e]; exact fin r⟩, fun q => absurd ha q⟩
    · have z := q0 e
      subst e
      exact ⟨q_vi (n := 0) (by decide) (by decide), by rw [show (Int32.toNatClampNeg 0) = 0 from rfl, z]; exact fin r⟩
    · have z := q1 e
      subst e
      exact ⟨q_vi (n := 1) (by decide) (by decide), by rw [show (Int32.toNatClampNeg 1) = 1 from rfl, z]; exact fin r⟩
    · have z := q2 e
      subst e
      exact ⟨q_vi (n := 2) (by decide) (by decide), by rw [show (Int32.toNatClampNeg 2) = 2 from rfl, z]; exact fin r⟩
    · have gs : ∀ i, g_stones kd (i + 1) = g_stones kd i + (if kd i = 1 then 1 else 0) := fun i => by
        unfold g_stones
        rw [List.range_succ, List.filter_append, List.length_append]
        congr 1
        by_cases z : kd i = 1 <;> simp [z]
      have loop : ∀ (j i : Nat), i + j = R * C → q_Ex X d 154 81 [some (.ref 97), none, some (.int (nI (g_stones kd i))), some (.int (nI i))] [] M (q_ri (fun r' M4 => K r r' M4)) := by
        intro j
        induction j with
        | zero =>
          intro i hi
          refine vc154_p81 (by omega) (r_cells b2 ⟨fun _ => ?_, fun q => absurd ((q_le (by omega) (by omega)).mpr (by omega)) q⟩)
          rw [show i = R * C by omega, q3 e]; exact fin r
        | succ j ih =>
          intro i hi
          have hi2 : i < R * C := by omega
          have hk3 := (hw.2.2.2.2.1 i hi2).1
          refine vc154_p81 (by omega) (r_cells b2 ⟨fun q => absurd ((q_le (by omega) (by omega)).mp q) (by omega), fun _ => r_what (by omega) ?_⟩)
          have gi := gs i
          rw [(b2.2.2.2 i hi2).1, show (1 : Int32) = nI 1 from rfl, q_eq (by omega) (by decide), nI_add, nI_add, show nI (g_stones kd i) + 0 = nI (g_stones kd i) from by rw [Int32.add_zero]]
          refine ⟨fun q => ?_, fun q => ?_⟩
          · have gi2 : g_stones kd (i + 1) = g_stones kd i := by rw [gs i, if_neg q]; rfl
            rw [← gi2]; exact ih (i + 1) (by omega)
          · rw [if_pos q] at gi
            rw [← gi]; exact ih (i + 1) (by omega)
      exact loop (R * C) 0 (by omega)
    · exact r_digits (n := n) (o := o) b2.2.2.1 hn3 ho.2.2.2.1 (fun e he => (s2.2.2.1 e he).1) (by rw [q7 e]; exact fin r)
  have eqn : ∀ v : Nat, v < 11 → a = nI v → ∀ u : Nat, u < 11 → (a = nI u → v = u) := fun v hv e u hu e2 => by rw [e] at e2; exact (q_eq (by omega) (by omega)).mp e2
  have at_ : ∀ (v : Nat) (r : Int32), v < 8 → a = nI v → (v = 0 → M 99 0 = r) → (v = 1 → M 99 1 = r) → (v = 2 → M 99 2 = r) → (v = 3 → nI (g_stones kd (R * C)) = r) → (v = 4 → M 99 7 = r) → (v = 5 → M 97 6 = r) → (v = 6 → M 99 3 = r) → (v = 7 → nI o = r) → q_Ci X d 154 [.ref 97, .int a] M (fun r' M4 => K r r' M4) := by
    intro v r hv e q0 q1 q2 q3 q4 q5 q6 q7
    have E := eqn v (by omega) e
    refine small r (by rw [e]; exact l10 v (by omega)) (fun z => q0 (E 0 (by decide) z)) (fun z => q1 (E 1 (by decide) z)) (fun z => q2 (E 2 (by decide) z)) (fun z => q3 (E 3 (by decide) z)) (fun z => q4 (E 4 (by decide) z)) (fun z => q5 (E 5 (by decide) z)) (fun z => q6 (E 6 (by decide) z)) (fun z => q7 (E 7 (by decide) z)) (fun z => ?_)
    exfalso
    obtain ⟨y0, y1, y2, y3, y4, y5, y6, y7⟩ := z
    rcases (show v = 0 ∨ v = 1 ∨ v = 2 ∨ v = 3 ∨ v = 4 ∨ v = 5 ∨ v = 6 ∨ v = 7 by omega) with x | x | x | x | x | x | x | x
    · subst x; exact y0 e
    · subst x; exact y1 e
    · subst x; exact y2 e
    · subst x; exact y3 e
    · subst x; exact y4 e
    · subst x; exact y5 e
    · subst x; exact y6 e
    · subst x; exact y7 e
  have no : ∀ v u : Nat, v ≠ u → ∀ P : Prop, v = u → P := fun v u h P e => absurd e h
  refine vc71 ⟨fun e => ?_, fun e => ?_, fun e => ?_, fun e => ?_, fun e => ?_, fun e => ?_, fun e => ?_, fun e => ?_, fun e => ?_⟩
  · exact at_ 0 _ (by decide) e (fun _ => by rw [b2.1, hb.1]) (no 0 1 (by decide) _) (no 0 2 (by decide) _) (no 0 3 (by decide) _) (no 0 4 (by decide) _) (no 0 5 (by decide) _) (no 0 6 (by decide) _) (no 0 7 (by decide) _)
  · exact at_ 1 _ (by decide) e (no 1 0 (by decide) _) (fun _ => by rw [b2.2.1, hb.2.1]) (no 1 2 (by decide) _) (no 1 3 (by decide) _) (no 1 4 (by decide) _) (no 1 5 (by decide) _) (no 1 6 (by decide) _) (no 1 7 (by decide) _)
  · exact at_ 2 _ (by decide) e (no 2 0 (by decide) _) (no 2 1 (by decide) _) (fun _ => by rw [b2.2.2.1, hb.2.2.2.2.1]) (no 2 3 (by decide) _) (no 2 4 (by decide) _) (no 2 5 (by decide) _) (no 2 6 (by decide) _) (no 2 7 (by decide) _)
  · exact at_ 3 _ (by decide) e (no 3 0 (by decide) _) (no 3 1 (by decide) _) (no 3 2 (by decide) _) (fun _ => by rw [hb.2.2.2.1]) (no 3 4 (by decide) _) (no 3 5 (by decide) _) (no 3 6 (by decide) _) (no 3 7 (by decide) _)
  · exact at_ 4 _ (by decide) e (no 4 0 (by decide) _) (no 4 1 (by decide) _) (no 4 2 (by decide) _) (no 4 3 (by decide) _) (fun _ => by rw [s2.2.2.2.1, d5]) (no 4 5 (by decide) _) (no 4 6 (by decide) _) (no 4 7 (by decide) _)
  · exact at_ 5 _ (by decide) e (no 5 0 (by decide) _) (no 5 1 (by decide) _) (no 5 2 (by decide) _) (no 5 3 (by decide) _) (no 5 4 (by decide) _) (fun _ => by rw [hR.1, hC.1]) (no 5 6 (by decide) _) (no 5 7 (by decide) _)
  · exact at_ 6 _ (by decide) e (no 6 0 (by decide) _) (no 6 1 (by decide) _) (no 6 2 (by decide) _) (no 6 3 (by decide) _) (no 6 4 (by decide) _) (no 6 5 (by decide) _) (fun _ => by rw [s2.1, d3]) (no 6 7 (by decide) _)
  · exact at_ 7 _ (by decide) e (no 7 0 (by decide) _) (no 7 1 (by decide) _) (no 7 2 (by decide) _) (no 7 3 (by decide) _) (no 7 4 (by decide) _) (no 7 5 (by decide) _) (no 7 6 (by decide) _) (fun _ => by rw [d4])
  · have none_ : q_Ci X d 154 [.ref 97, .int a] M (fun r' M4 => K (-9) r' M4) → q_Ci X d 154 [.ref 97, .int a] M (fun r' M4 => K (-9) r' M4) := id
    have c9 : (a < 11 ∨ 16 < a) → q_Ci X d 154 [.ref 97, .int a] M (fun r' M4 => K (-9) r' M4) := by
      intro h11
      have i11 : (11 : Int32).toInt = 11 := rfl
      have i10 : (10 : Int32).toInt = 10 := rfl
      have i16 : (16 : Int32).toInt = 16 := rfl
      have i17 : (17 : Int32).toInt = 17 := rfl
      by_cases q : a ≤ 10
      · exact small (-9) q (fun z => absurd z e.1) (fun z => absurd z e.2.1) (fun z => absurd z e.2.2.1) (fun z => absurd z e.2.2.2.1) (fun z => absurd z e.2.2.2.2.1) (fun z => absurd z e.2.2.2.2.2.1) (fun z => absurd z e.2.2.2.2.2.2.1) (fun z => absurd z e.2.2.2.2.2.2.2) (fun _ => rfl)
      · have h17 : (17 : Int32) ≤ a := by
          rw [Int32.le_iff_toInt_le] at q ⊢
          rcases h11 with z | z
          · rw [Int32.lt_iff_toInt_lt] at z; omega
          · rw [Int32.lt_iff_toInt_lt] at z; omega
        refine vc154 (by omega) ⟨fun z => absurd z q, fun _ => ⟨fun _ => ⟨fun z => absurd z e.1, fun z => absurd z e.2.1, fun z => absurd z e.2.2.1, fun z => absurd z e.2.2.2.1, fun z => absurd z e.2.2.2.2.1, fun z => absurd z e.2.2.2.2.2.1, fun z => absurd z e.2.2.2.2.2.2.1, fun z => absurd z e.2.2.2.2.2.2.2, fun _ => fin (-9)⟩, fun z => absurd h17 z⟩⟩
    refine ⟨fun q => c9 (Or.inl q), fun q => ⟨fun q2 => c9 (Or.inr q2), fun q2 => ?_⟩⟩
    have i0 : (0 : Int32).toInt = 0 := rfl
    have i11 : (11 : Int32).toInt = 11 := rfl
    have i16 : (16 : Int32).toInt = 16 := rfl
    obtain ⟨v, hv, rfl⟩ : ∃ v : Nat, v < 2 ^ 31 ∧ a = nI v := q_nn (by rw [Int32.lt_iff_toInt_lt] at q ⊢; omega)
    have v11 : 11 ≤ v := by
      rcases Nat.lt_or_ge v 11 with z | z
      · exact absurd ((q_lt (b := 11) hv (by decide)).mpr z) q
      · exact z
    have v16 : v ≤ 16 := by
      rcases Nat.lt_or_ge 16 v with z | z
      · exact absurd ((q_lt (a := 16) (by decide) hv).mpr z) q2
      · exact z
    have esub : nI v - 10 = nI (v - 10) := pk_sub (a := v) (b := 10) (by omega)
    have hvv : vp_in (nI v - 10) 7 := by rw [esub]; exact q_vi (by omega) (by decide)
    refine ⟨hvv, vc154 (by omega) ⟨fun z => absurd ((q_le (b := 10) hv (by decide)).mp z) (by omega), fun _ => ⟨fun z => absurd ((q_le (a := 17) (by decide) hv).mp z) (by omega), fun _ => ⟨hvv, ?_⟩⟩⟩⟩
    rw [esub, q_cn (by omega), hC.2.2.1 (v - 10) (by omega) (by omega), hR.2.2.1 (v - 10) (by omega) (by omega)]
    exact fin _
theorem call_slope (hd : 100 ≤ d) (ht : t < 600) (hI : Inv t M) (hK : ∀ r M', Inv (t + 1) M' → K r r M') : q_two X d 45 104 [.ref 0] [.ref 97] M K := by
  obtain ⟨L, S, tp, rf, h, g, img, hP, hC, hR⟩ := hI
  obtain ⟨c1, c2, c3, c4, c5, c6, c7, c8, c9, c10⟩ := id hC
  obtain ⟨p1, p2, p3, p4, p5, p6, p7⟩ := id hP
  refine vc45 (by omega) ?_
  rw [c1]
  refine c_read (by omega) p1 (fun j hj => ⟨c2 j hj, p2 j hj⟩) (fun e he hne M1 f1 => ⟨fun q => absurd q hne, fun _ => ?_⟩) (fun r q x m s kd co nu dA wA n hres hb M1 f1 dr => ⟨fun _ => ?_, fun q => absurd rfl q⟩)
  · -- a fault: the letters are no more
    have F1 : ∀ k, 97 ≤ k → (q_set M1 0 1 0) k = M k := fun k hk => by rw [q_set_n (by omega), f1 k (by omega)]
    have R1 := hR.lo F1
    refine vc104 (by omega) (r_reads (by omega) p1 R1.1 (fun j hj => ⟨R1.2.1 j hj, p2 j hj⟩) (fun e2 he2 M2 f2 => ?_) (fun r q x m s kd co nu dA wA n hres => ?_))
    · have ee : e2 = e := by rw [he] at he2; exact (Sum.inl.inj he2).symm
      subst ee
      refine hK _ _ ⟨0, S, tp, rf, h, g, img, ⟨by decide, (fun j hj => by omega), by omega, by omega, p5, p6, p7⟩, ?_, ?_⟩
      · have eH : ∀ k, k ≠ 0 → (k < 3 ∨ 8 < k) → k < 97 → (q_set M2 97 6 0) k = M k := fun k a b c => by rw [q_set_n (by omega), f2.1 k (by omega) (by omega), q_set_n a, f1 k b]
        have e0 : ∀ j, j ≠ 1 → (q_set M2 97 6 0) 0 j = M 0 j := fun j hj => by rw [q_set_n (by decide), f2.1 0 (by decide) (by decide), q_set_ap, if_neg (by omega), f1 0 (by omega)]
        refine ⟨?_, (fun j hj => by omega), fun j a b => by rw [eH 2 (by decide) (by omega) (by decide)]; exact c3 j a b, by rw [e0 14 (by decide)]; exact c4, by rw [e0 15 (by decide)]; exact c5, c6.eq (fun k hk => eH k (by omega) (by omega) (by omega)), c7.eq (e0 16 (by decide)) (eH 89 (by decide) (by omega) (by decide)), fun z => (c8 (by rw [e0 15 (by decide)] at z; exact z)).eq p6 (fun k a b => eH k (by omega) (by omega) (by omega)), by rw [e0 6 (by decide)]; exact c9, fun i => ⟨(c10 i).1.eq (fun k hk => eH k (by omega) (by omega) (by omega)), fun z => ((c10 i).2 (by rw [e0 15 (by decide)] at z; exact z)).eq (p7 i).2.1 (fun k a b => eH k (by omega) (by omega) (by omega))⟩⟩
        rw [q_set_n (by decide), f2.1 0 (by decide) (by decide), q_set_ap, if_pos ⟨rfl, rfl⟩]; rfl
      · obtain ⟨x1, x2, x3, x4, x5, x6⟩ := R1
        exact ⟨by rw [q_set_ap, if_pos ⟨rfl, rfl⟩]; rfl, (fun j hj => by omega), fun j a b => by rw [q_set_n (by decide), f2.1 98 (by decide) (by decide)]; exact x3 j a b, by rw [q_set_n (by decide), f2.1 99 (by decide) (by decide)]; exact x4, by rw [q_set_ap, if_neg (by decide), f2.2 4 (by decide) (by decide)]; exact x5, fun i => by rw [q_set_n (by decide), f2.1 100 (by decide) (by decide)]; exact x6 i⟩
    · rw [he] at hres; cases hres
  · -- the slope becomes
    have e14 : M1 0 14 = nI S := by rw [f1 0 (by omega)]; exact c4
    rw [e14, nI_1]
    have hln : ∀ e, e < 3 → ∃ l, (q_set (q_set M1 0 1 0) 0 14 (nI (S + 1))) 19 e = nI l := fun e he => by
      obtain ⟨R', C', n', kd', co', nu', dc', wc', num', w', o', ks', se', ln', st'⟩ := h
      exact ⟨ln' e, by rw [q_set_n (by decide), q_set_n (by decide), f1 19 (by omega)]; exact (c6.2.2.2.2.2.2 e he).1⟩
    have hlf : ∀ e, e < 3 → (q_set (q_set M1 0 1 0) 0 14 (nI (S + 1))) 19 e = nI (if q : e < 3 then (hln e q).choose else 0) := fun e he => by
      rw [dif_pos he]
      exact (hln e he).choose_spec
    have dr2 : c_dr (q_set (q_set M1 0 1 0) 0 14 (nI (S + 1))) (r + 1) q n kd co nu (p_dc dA) (p_dc wA) := by
      unfold c_dr b_c at dr ⊢
      rw [q_set_n (by decide), q_set_n (by decide), q_set_n (by decide), q_set_n (by decide), q_set_n (by decide), q_set_n (by decide), q_set_n (by decide), q_set_n (by decide), q_set_n (by decide), q_set_n (by decide), q_set_n (by decide), q_set_n (by decide)]
      exact dr
    refine c_begin (by omega) hb dr2 hlf (fun M2 f2 b2 n2 l2 o2 s2 w2 => ?_)
    have hn3 := hb.2.2.1
    have h4 := hb.2.2.2.1
    have hn1 : 1 ≤ n := by omega
    have eM2 : ∀ k, k ≠ 0 → (k < 3 ∨ 8 < k) → (k < 10 ∨ (16 < k ∧ k ≠ 19)) → M2 k = M k := fun k a b c => by rw [f2 k c, q_set_n a, q_set_n a, f1 k b]
    have F1 : ∀ k, 97 ≤ k → (q_set M2 0 16 (-1)) k = M k := fun k hk => by rw [q_set_n (by omega), eM2 k (by omega) (by omega) (by omega)]
    have R1 := hR.lo F1
    rw [b2.2.2.1]
    -- the law stays
    obtain ⟨lw, hlw5, hlwC, hlwR⟩ : ∃ lw, lw < 5 ∧ M 10 2 = nI lw ∧ M 99 3 = nI lw := by
      obtain ⟨R', C', n', kd', co', nu', dc', wc', num', w', o', ks', se', ln', st'⟩ := h
      exact ⟨w', p6.2.1, c6.2.2.1, hR.2.2.2.1.2.1⟩
    have hst9 : o_st n < 9 ∧ o_st n < o_en n := (show ∀ n, n < 4 → n = 0 ∨ (o_st n < 9 ∧ o_st n < o_en n) by decide +kernel) n (by omega) |>.resolve_left (by omega)
    have hdg := o_dig n (by omega) (o_st n) hst9.1 (Nat.le_refl _) hst9.2
    have hown := (o_own n (by omega) (o_st n) hst9.1 (Nat.le_refl _) hst9.2).mp rfl
    have hol := o_lt hst9.1
    refine vc104 (by omega) (r_reads (by omega) p1 R1.1 (fun j hj => ⟨R1.2.1 j hj, p2 j hj⟩) (fun e2 he2 => ?_) (fun r' q' x' m' s' kd' co' nu' dA' wA' n' hres' M3 k3 => ?_))
    · rw [hres] at he2; cases he2
    · have hinj := Sum.inr.inj (hres.symm.trans hres')
      cases hinj
      obtain ⟨k1, k2, k4, k5, k6, k7⟩ := k3
      refine hK _ _ ⟨0, S + 1, tp, rf, (r + 1, q, n, kd, co, nu, p_dc dA, p_dc wA, S + 1, lw, o_at (o_st n), 0, fun _ => 0, fun _ => 0, fun _ _ => 0), g, img, ⟨by decide, (fun j hj => by omega), by omega, by omega, Nat.le_refl _, ⟨hb, hlw5, hol, hdg.1, hdg.2, by decide, (fun j hj => absurd hj (Nat.not_lt_zero j)), fun e he => ⟨Nat.zero_le 10, fun j hj => absurd hj (Nat.not_lt_zero j)⟩⟩, fun i => ⟨by have := (p7 i).1; omega, (p7 i).2.1, fun z => by rw [hn_e] at z; have := (p7 i).1; omega⟩⟩, ?_, ?_⟩
      · have eq : ∀ k, k < 97 → (q_set M3 97 6 0) k = (q_set M2 0 16 (-1)) k := fun k hk => by rw [q_set_n (by omega), k1 k (by omega) (by omega) (by omega)]
        have eH : ∀ k, k ≠ 0 → (k < 3 ∨ 8 < k) → (k < 10 ∨ (16 < k ∧ k ≠ 19)) → k < 97 → (q_set M3 97 6 0) k = M k := fun k a b c e => by rw [eq k e, q_set_n a, eM2 k a b c]
        have e0 : ∀ j, j ≠ 1 → j ≠ 14 → j ≠ 16 → (q_set M3 97 6 0) 0 j = M 0 j := fun j a b c => by rw [eq 0 (by decide), q_set_ap, if_neg (by omega), f2 0 (by omega), q_set_ap, if_neg (by omega), q_set_ap, if_neg (by omega), f1 0 (by omega)]
        have e0' : ∀ j, j ≠ 16 → (q_set M3 97 6 0) 0 j = (q_set (q_set M1 0 1 0) 0 14 (nI (S + 1))) 0 j := fun j a => by rw [eq 0 (by decide), q_set_ap, if_neg (by omega), f2 0 (by omega)]
        refine ⟨by rw [e0' 1 (by decide), q_set_ap, if_neg (by decide), q_set_ap, if_pos ⟨rfl, rfl⟩]; rfl, (fun j hj => by omega), fun j a b => by rw [eH 2 (by decide) (by omega) (by omega) (by decide)]; exact c3 j a b, by rw [e0' 14 (by decide), q_set_ap, if_pos ⟨rfl, rfl⟩], ?_, ⟨?_, ?_, ?_, ?_, ?_, (fun j hj => absurd hj (Nat.not_lt_zero j)), fun e he => ⟨?_, fun j hj => absurd hj (Nat.not_lt_zero j)⟩⟩, Or.inl ?_, fun z => ?_, by rw [e0 6 (by decide) (by decide) (by decide)]; exact c9, fun i => ⟨(c10 i).1.eq (fun k hk => eH k (by omega) (by omega) (by omega) (by omega)), fun z => ((c10 i).2 (by rw [e0 15 (by decide) (by decide) (by decide)] at z; exact z)).eq (p7 i).2.1 (fun k a b => eH k (by omega) (by omega) (by omega) (by omega))⟩⟩
        · rw [e0 15 (by decide) (by decide) (by decide)]
          rcases c5 with z | ⟨s', z1, z2⟩
          · exact Or.inl z
          · exact Or.inr ⟨s', by omega, z2⟩
        · exact b2.eq (fun k a b => by rw [eq k (by omega), q_set_n (by omega)])
        · rw [eq 10 (by decide), q_set_n (by decide)]; exact n2
        · rw [eq 10 (by decide), q_set_n (by decide), l2, q_set_n (by decide), q_set_n (by decide), f1 10 (by omega)]; exact hlwC
        · rw [eq 10 (by decide), q_set_n (by decide)]; exact o2
        · rw [eq 10 (by decide), q_set_n (by decide), s2]; rfl
        · rw [eq 19 (by decide), q_set_n (by decide), w2 e he]; rfl
        · rw [eq 0 (by decide), q_set_ap, if_pos ⟨rfl, rfl⟩]
        · exfalso
          rw [hn_e, e0 15 (by decide) (by decide) (by decide)] at z
          rcases c5 with y | ⟨s', z1, z2⟩
          · rw [y] at z
            exact absurd (show nI (S + 1) < 0 by rw [← z]; decide) (q_nlt0 (by omega))
          · rw [z2] at z
            have := (q_eq (by omega) (by omega)).mp z
            omega
      · obtain ⟨x1, x2, x3, x4, x5, x6⟩ := R1
        refine ⟨by rw [q_set_ap, if_pos ⟨rfl, rfl⟩]; rfl, (fun j hj => by omega), fun j a b => by rw [q_set_n (by decide), k1 98 (by decide) (by decide) (by decide)]; exact x3 j a b, ?_, by rw [q_set_ap, if_neg (by decide), k2 4 (by decide) (by decide)]; exact x5, fun i => by rw [q_set_n (by decide), k1 100 (by decide) (by decide) (by decide)]; exact x6 i⟩
        rw [q_set_n (by decide)]
        refine ⟨k4, ?_, fun e he => ?_, by rw [k6]; rfl, (fun j hj => absurd hj (Nat.not_lt_zero j)), fun e he => ⟨by rw [(k7 e he).2]; rfl, fun j hj => absurd hj (Nat.not_lt_zero j)⟩⟩
        · rw [k5, F1 99 (by decide)]; exact hlwR
        · rw [(k7 e (by omega)).1, hown e he]
end Calls5
