/-! the calls that only ask -/
section Calls2
variable {X : Nat × (Nat → Int32)} {t d : Nat} {M : q_M} {K : Int32 → Int32 → q_M → Prop}
theorem call_all (hd : 100 ≤ d) (ht : t < 600) (hI : Inv t M) (hK : ∀ r M', Inv (t + 1) M' → K r r M') : q_two X d 50 126 [.ref 0] [.ref 97] M K := by
  obtain ⟨L, S, tp, rf, h, g, img, hP, hC, hR⟩ := hI
  obtain ⟨R, C, n, kd, co, nu, dc, wc, num, w, o, ks, se, ln, st⟩ := h
  have ho := hP.2.2.2.2.2.1
  have hw := ho.1
  have hRC := b_RC hw
  have hR6 := hw.1
  have hn3 := hw.2.2.1
  obtain ⟨hq, hsn, htw⟩ := h_c.q ho hC.2.2.2.2.2.1 hC.2.2.2.2.2.2.2.1
  have hb := hq.1
  have hco : ∀ c, c < R * C → co c ≤ 9 := fun c hc => (hw.2.2.2.2.1 c hc).2.1
  have RB : ∀ M2 : q_M, (∀ k, 97 ≤ k → M2 k = M k) → r_b M2 R C n kd co nu ∧ r_st M2 (R * C) n w o ks se ∧ r_tw M2 ln st ∧ IR M2 L tp rf (R, C, n, kd, co, nu, dc, wc, num, w, o, ks, se, ln, st) g img := fun M2 f => ⟨hR.2.2.2.1.b (f 99 (by decide)), (h_r.st ho hR.2.2.2.1 (f 99 (by decide))).1, (h_r.st ho hR.2.2.2.1 (f 99 (by decide))).2, hR.lo f⟩
  have n0 : 0 < R * C → 0 < n ∧ 0 < R := fun q => by
    rcases hw.2.2.2.1 with ⟨z1, z2, z3⟩ | ⟨z1, z2, z3⟩
    · subst z1; omega
    · omega
  have z0 : R * C = 0 → n = 0 ∧ R = 0 := fun q => by
    rcases hw.2.2.2.1 with ⟨z1, z2, z3⟩ | ⟨z1, z2, z3⟩
    · omega
    · have := Nat.mul_le_mul z1 z2; omega
  refine vc50 (by omega) (c_hasSlope hb.2.2.1 (by omega) (fun g0 => ⟨fun _ => ?_, fun q => absurd q (by decide)⟩) (fun g0 => ⟨fun q => absurd rfl q, fun _ => ?_⟩))
  · refine c_familiesByLaw hw (by omega) (n0 g0).1 hq (fun M2 f2 e2 k2 => ?_)
    obtain ⟨b2, s2, t2, R2⟩ := RB M2 (fr_hi f2)
    refine vc126 (by omega) (r_isSlope b2.1 (by omega) (fun _ => ⟨fun q => absurd q (by decide), fun _ => ?_⟩) (fun q => by have := (n0 g0).2; omega))
    exact r_allNow hw.r (by omega) b2 hco s2 (fun M4 f4 => hK _ M4 (Inv.q ht hP (hC.qh hP f2 e2 k2) R2 f4.r))
  · refine cx_ref (p := 3) rfl (by decide) (by decide) hP hC (fun M2 f2 C2 => ?_)
    have F2 : ∀ k, 97 ≤ k → M2 k = M k := fun k hk => f2 k (by omega)
    obtain ⟨b2, s2, t2, R2⟩ := RB M2 F2
    exact vc126 (by omega) (r_isSlope b2.1 (by omega) (fun q => by have := z0 g0; omega) (fun _ => ⟨fun _ => Inv.refR ht (p := 3) rfl (by decide) (by decide) hP C2 R2 (fun M4 I4 => hK _ M4 I4), fun q => absurd rfl q⟩))
theorem call_signed (hd : 100 ≤ d) (ht : t < 600) (hI : Inv t M) (hK : ∀ r M', Inv (t + 1) M' → K r r M') : q_two X d 51 128 [.ref 0] [.ref 97] M K := by
  obtain ⟨L, S, tp, rf, h, g, img, hP, hC, hR⟩ := hI
  obtain ⟨R, C, n, kd, co, nu, dc, wc, num, w, o, ks, se, ln, st⟩ := h
  have ho := hP.2.2.2.2.2.1
  have hw := ho.1
  have hRC := b_RC hw
  have hR6 := hw.1
  have hn3 := hw.2.2.1
  obtain ⟨hq, hsn, htw⟩ := h_c.q ho hC.2.2.2.2.2.1 hC.2.2.2.2.2.2.2.1
  have hb := hq.1
  have hco : ∀ c, c < R * C → co c ≤ 9 := fun c hc => (hw.2.2.2.2.1 c hc).2.1
  have RB : ∀ M2 : q_M, (∀ k, 97 ≤ k → M2 k = M k) → r_b M2 R C n kd co nu ∧ r_st M2 (R * C) n w o ks se ∧ r_tw M2 ln st ∧ IR M2 L tp rf (R, C, n, kd, co, nu, dc, wc, num, w, o, ks, se, ln, st) g img := fun M2 f => ⟨hR.2.2.2.1.b (f 99 (by decide)), (h_r.st ho hR.2.2.2.1 (f 99 (by decide))).1, (h_r.st ho hR.2.2.2.1 (f 99 (by decide))).2, hR.lo f⟩
  have n0 : 0 < R * C → 0 < n ∧ 0 < R := fun q => by
    rcases hw.2.2.2.1 with ⟨z1, z2, z3⟩ | ⟨z1, z2, z3⟩
    · subst z1; omega
    · omega
  have z0 : R * C = 0 → n = 0 ∧ R = 0 := fun q => by
    rcases hw.2.2.2.1 with ⟨z1, z2, z3⟩ | ⟨z1, z2, z3⟩
    · omega
    · have := Nat.mul_le_mul z1 z2; omega
  refine vc51 (by omega) (c_hasSlope hb.2.2.1 (by omega) (fun g0 => ⟨fun _ => ?_, fun q => absurd q (by decide)⟩) (fun g0 => ⟨fun q => absurd rfl q, fun _ => ?_⟩))
  · refine c_strikeOut hw n 0 (d - 1) 0 M _ (by omega) (by omega) (by decide) hb (fun M2 f2 => ?_)
    obtain ⟨b2, s2, t2, R2⟩ := RB M2 (fun k hk => f2 k (by omega))
    have C2 := hC.q hP (M' := M2) (fun k _ _ a => f2 k a) (fun j _ _ => by rw [f2 0 (by decide)]) (Or.inl ⟨by rw [f2 0 (by decide)], fun k a _ => f2 k (by omega)⟩) (hC.2.2.2.2.2.2.1.eq (by rw [f2 0 (by decide)]) (f2 89 (by decide)))
    refine vc128 (by omega) (r_isSlope b2.1 (by omega) (fun _ => ⟨fun q => absurd q (by decide), fun _ => ?_⟩) (fun q => by have := (n0 g0).2; omega))
    exact r_signedFrom hw.r n 0 (d - 1) 0 M2 _ (by omega) (by omega) (by decide) b2 (hK _ M2 (Inv.q ht hP C2 R2 (r_fr.rf M2)))
  · refine cx_ref (p := 3) rfl (by decide) (by decide) hP hC (fun M2 f2 C2 => ?_)
    have F2 : ∀ k, 97 ≤ k → M2 k = M k := fun k hk => f2 k (by omega)
    obtain ⟨b2, s2, t2, R2⟩ := RB M2 F2
    exact vc128 (by omega) (r_isSlope b2.1 (by omega) (fun q => by have := z0 g0; omega) (fun _ => ⟨fun _ => Inv.refR ht (p := 3) rfl (by decide) (by decide) hP C2 R2 (fun M4 I4 => hK _ M4 I4), fun q => absurd rfl q⟩))
theorem call_holds (hd : 100 ≤ d) (ht : t < 600) (hI : Inv t M) (hK : ∀ r M', Inv (t + 1) M' → K r r M') : q_two X d 52 129 [.ref 0] [.ref 97] M K := by
  obtain ⟨L, S, tp, rf, h, g, img, hP, hC, hR⟩ := hI
  obtain ⟨R, C, n, kd, co, nu, dc, wc, num, w, o, ks, se, ln, st⟩ := h
  have ho := hP.2.2.2.2.2.1
  have hw := ho.1
  have hRC := b_RC hw
  have hR6 := hw.1
  have hn3 := hw.2.2.1
  obtain ⟨hq, hsn, htw⟩ := h_c.q ho hC.2.2.2.2.2.1 hC.2.2.2.2.2.2.2.1
  have hb := hq.1
  have hco : ∀ c, c < R * C → co c ≤ 9 := fun c hc => (hw.2.2.2.2.1 c hc).2.1
  have RB : ∀ M2 : q_M, (∀ k, 97 ≤ k → M2 k = M k) → r_b M2 R C n kd co nu ∧ r_st M2 (R * C) n w o ks se ∧ r_tw M2 ln st ∧ IR M2 L tp rf (R, C, n, kd, co, nu, dc, wc, num, w, o, ks, se, ln, st) g img := fun M2 f => ⟨hR.2.2.2.1.b (f 99 (by decide)), (h_r.st ho hR.2.2.2.1 (f 99 (by decide))).1, (h_r.st ho hR.2.2.2.1 (f 99 (by decide))).2, hR.lo f⟩
  have n0 : 0 < R * C → 0 < n ∧ 0 < R := fun q => by
    rcases hw.2.2.2.1 with ⟨z1, z2, z3⟩ | ⟨z1, z2, z3⟩
    · subst z1; omega
    · omega
  have z0 : R * C = 0 → n = 0 ∧ R = 0 := fun q => by
    rcases hw.2.2.2.1 with ⟨z1, z2, z3⟩ | ⟨z1, z2, z3⟩
    · omega
    · have := Nat.mul_le_mul z1 z2; omega
  refine vc52 (by omega) (c_hasSlope hb.2.2.1 (by omega) (fun g0 => ⟨fun _ => ?_, fun q => absurd q (by decide)⟩) (fun g0 => ⟨fun q => absurd rfl q, fun _ => ?_⟩))
  · rw [hb.2.2.2.2.1]
    refine c_firstOrder hn3 ?_
    rw [nI_1]
    refine c_holdsIn hw (by omega) (n0 g0).1 hb hq.2.2 (fun M2 f2 e2 k2 => ?_)
    obtain ⟨b2, s2, t2, R2⟩ := RB M2 (fr_hi f2)
    have C2 := hC.qh hP f2 e2 k2
    have both : ∀ v : Int32, (g_hold R C n kd nu dc → v = 1) → (¬ g_hold R C n kd nu dc → v = 0) → q_Ci X d 129 [.ref 97] M2 (fun r' M4 => K v r' M4) := by
      intro v v1 v0
      refine vc129 (by omega) (r_isSlope b2.1 (by omega) (fun _ => ⟨fun _ => ?_, fun q => absurd q (by decide)⟩) (fun q => by have := (n0 g0).2; omega))
      refine r_holdsIn hw.r (ks := ks) (se := se) (by omega) (n0 g0).1 b2 hco s2.2.2.2.1 s2.2.2.2.2.1 s2.2.2.2.2.2 (fun M4 f4 => ⟨fun q => ?_, fun q => ?_⟩)
      · rw [v1 q]; exact hK _ M4 (Inv.q ht hP C2 R2 f4)
      · rw [v0 q]; exact hK _ M4 (Inv.q ht hP C2 R2 f4)
    exact ⟨fun q => both 1 (fun _ => rfl) (fun z => absurd q z), fun q => both 0 (fun z => absurd z q) (fun _ => rfl)⟩
  · refine cx_ref (p := 3) rfl (by decide) (by decide) hP hC (fun M2 f2 C2 => ?_)
    have F2 : ∀ k, 97 ≤ k → M2 k = M k := fun k hk => f2 k (by omega)
    obtain ⟨b2, s2, t2, R2⟩ := RB M2 F2
    exact vc129 (by omega) (r_isSlope b2.1 (by omega) (fun q => by have := z0 g0; omega) (fun _ => ⟨fun q => absurd rfl q, fun _ => Inv.refR ht (p := 3) rfl (by decide) (by decide) hP C2 R2 (fun M4 I4 => hK _ M4 I4)⟩))
theorem call_by {a : Int32} (hd : 100 ≤ d) (ht : t < 600) (hI : Inv t M) (hK : ∀ r M', Inv (t + 1) M' → K r r M') : q_two X d 53 130 [.ref 0, .int a] [.ref 97, .int a] M K := by
  obtain ⟨L, S, tp, rf, h, g, img, hP, hC, hR⟩ := hI
  obtain ⟨R, C, n, kd, co, nu, dc, wc, num, w, o, ks, se, ln, st⟩ := h
  have ho := hP.2.2.2.2.2.1
  have hw := ho.1
  have hRC := b_RC hw
  have hR6 := hw.1
  have hn3 := hw.2.2.1
  obtain ⟨hq, hsn, htw⟩ := h_c.q ho hC.2.2.2.2.2.1 hC.2.2.2.2.2.2.2.1
  have hb := hq.1
  have hco : ∀ c, c < R * C → co c ≤ 9 := fun c hc => (hw.2.2.2.2.1 c hc).2.1
  have RB : ∀ M2 : q_M, (∀ k, 97 ≤ k → M2 k = M k) → r_b M2 R C n kd co nu ∧ r_st M2 (R * C) n w o ks se ∧ r_tw M2 ln st ∧ IR M2 L tp rf (R, C, n, kd, co, nu, dc, wc, num, w, o, ks, se, ln, st) g img := fun M2 f => ⟨hR.2.2.2.1.b (f 99 (by decide)), (h_r.st ho hR.2.2.2.1 (f 99 (by decide))).1, (h_r.st ho hR.2.2.2.1 (f 99 (by decide))).2, hR.lo f⟩
  have n0 : 0 < R * C → 0 < n ∧ 0 < R := fun q => by
    rcases hw.2.2.2.1 with ⟨z1, z2, z3⟩ | ⟨z1, z2, z3⟩
    · subst z1; omega
    · omega
  have z0 : R * C = 0 → n = 0 ∧ R = 0 := fun q => by
    rcases hw.2.2.2.1 with ⟨z1, z2, z3⟩ | ⟨z1, z2, z3⟩
    · omega
    · have := Nat.mul_le_mul z1 z2; omega
  have h9 := o_en9 hn3
  refine vc53 (by omega) (c_hasSlope hb.2.2.1 (by omega) (fun g0 => ⟨fun _ => ?_, fun q => absurd q (by decide)⟩) (fun g0 => ⟨fun q => absurd rfl q, fun _ => ?_⟩))
  · rw [hb.2.2.2.2.1]
    refine c_placeOfOrder (by omega) hn3 (fun p p1 p2 p3 => ⟨fun _ => ?_, fun q => absurd (q_0le (by omega)) q⟩) (fun pno => ⟨fun q => absurd q (by decide), fun _ => ?_⟩)
    · refine c_byIn hw (by omega) (n0 g0).1 hb hq.2.2 p1 p2 (fun M2 f2 e2 k2 => ?_)
      obtain ⟨b2, s2, t2, R2⟩ := RB M2 (fr_hi f2)
      have C2 := hC.qh hP f2 e2 k2
      refine vc130 (by omega) (r_isSlope b2.1 (by omega) (fun _ => ⟨fun _ => ?_, fun q => absurd q (by decide)⟩) (fun q => by have := (n0 g0).2; omega))
      refine r_isOrder b2.2.2.1 (n0 g0).1 hn3 (fun p' p1' p2' p3' M3 f3 o3 => ⟨fun q => absurd q (by decide), fun _ => ?_⟩) (fun hno => absurd p3 (hno p p1 p2))
      have ep : p' = p := o_inj hn3 p1' p2' p1 p2 (by rw [p3'] at p3; exact (q_eq (by have := o_lt (show p' < 9 by omega); omega) (by have := o_lt (show p < 9 by omega); omega)).mp p3)
      subst ep
      have e99 : M3 99 = M2 99 := f3 99 (by decide)
      refine r_familiesBy hw.r (p := p') (ks := ks) (se := se) (by omega) (b2.eq e99) hco (by rw [e99]; exact s2.2.2.2.1) s2.2.2.2.2.1 (fun j hj => by rw [e99]; exact s2.2.2.2.2.2 j hj) p1 p2 o3 (fun M4 f4 => hK _ M4 (Inv.q ht hP C2 R2 ?_))
      exact r_fr.tr ⟨fun k hk => f3 k (by omega), by rw [f3 97 (by decide)], by rw [f3 97 (by decide)]⟩ f4.r
    · refine cx_ref (p := 1) rfl (by decide) (by decide) hP hC (fun M2 f2 C2 => ?_)
      have F2 : ∀ k, 97 ≤ k → M2 k = M k := fun k hk => f2 k (by omega)
      obtain ⟨b2, s2, t2, R2⟩ := RB M2 F2
      refine vc130 (by omega) (r_isSlope b2.1 (by omega) (fun _ => ⟨fun _ => ?_, fun q => absurd q (by decide)⟩) (fun q => by have := (n0 g0).2; omega))
      refine r_isOrder b2.2.2.1 (n0 g0).1 hn3 (fun p p1 p2 p3 => absurd p3 (pno p p1 p2)) (fun _ M3 f3 => ⟨fun _ => ?_, fun q => absurd rfl q⟩)
      exact Inv.refR ht (p := 1) rfl (by decide) (by decide) hP (C2.hi hP (fun k hk => f3 k (by omega))) (R2.q ⟨fun k hk => f3 k (by omega), by rw [f3 97 (by decide)], by rw [f3 97 (by decide)]⟩) (fun M4 I4 => hK _ M4 I4)
  · refine cx_ref (p := 3) rfl (by decide) (by decide) hP hC (fun M2 f2 C2 => ?_)
    have F2 : ∀ k, 97 ≤ k → M2 k = M k := fun k hk => f2 k (by omega)
    obtain ⟨b2, s2, t2, R2⟩ := RB M2 F2
    exact vc130 (by omega) (r_isSlope b2.1 (by omega) (fun q => by have := z0 g0; omega) (fun _ => ⟨fun q => absurd rfl q, fun _ => Inv.refR ht (p := 3) rfl (by decide) (by decide) hP C2 R2 (fun M4 I4 => hK _ M4 I4)⟩))
theorem call_alone {a b : Int32} (hd : 100 ≤ d) (ht : t < 600) (hI : Inv t M) (hK : ∀ r M', Inv (t + 1) M' → K r r M') : q_two X d 49 116 [.ref 0, .int a, .int b] [.ref 97, .int a, .int b] M K := by
  obtain ⟨L, S, tp, rf, h, g, img, hP, hC, hR⟩ := hI
  obtain ⟨R, C, n, kd, co, nu, dc, wc, num, w, o, ks, se, ln, st⟩ := h
  have ho := hP.2.2.2.2.2.1
  have hw := ho.1
  have hRC := b_RC hw
  have hR6 := hw.1
  have hn3 := hw.2.2.1
  obtain ⟨hq, hsn, htw⟩ := h_c.q ho hC.2.2.2.2.2.1 hC.2.2.2.2.2.2.2.1
  have hb := hq.1
  have hco : ∀ c, c < R * C → co c ≤ 9 := fun c hc => (hw.2.2.2.2.1 c hc).2.1
  have RB : ∀ M2 : q_M, (∀ k, 97 ≤ k → M2 k = M k) → r_b M2 R C n kd co nu ∧ r_st M2 (R * C) n w o ks se ∧ r_tw M2 ln st ∧ IR M2 L tp rf (R, C, n, kd, co, nu, dc, wc, num, w, o, ks, se, ln, st) g img := fun M2 f => ⟨hR.2.2.2.1.b (f 99 (by decide)), (h_r.st ho hR.2.2.2.1 (f 99 (by decide))).1, (h_r.st ho hR.2.2.2.1 (f 99 (by decide))).2, hR.lo f⟩
  have n0 : 0 < R * C → 0 < n ∧ 0 < R := fun q => by
    rcases hw.2.2.2.1 with ⟨z1, z2, z3⟩ | ⟨z1, z2, z3⟩
    · subst z1; omega
    · omega
  have z0 : R * C = 0 → n = 0 ∧ R = 0 := fun q => by
    rcases hw.2.2.2.1 with ⟨z1, z2, z3⟩ | ⟨z1, z2, z3⟩
    · omega
    · have := Nat.mul_le_mul z1 z2; omega
  refine vc49 (by omega) (c_hasDoor hb.2.2.2.2.1 (by omega) (fun i hi ei => ⟨fun q => absurd q (by decide), fun _ => ?_⟩) (fun noi => ⟨fun _ => ?_, fun q => absurd rfl q⟩))
  · refine (c_hasDoor hb.2.2.2.2.1 (by omega) (fun j hj ej => ⟨fun _ => ?_, fun q => absurd q (by decide)⟩) (fun noj => ⟨fun q => absurd rfl q, fun _ => ?_⟩))
    · subst ei; subst ej
      refine c_waysAlone hw (by omega) hb hi hj (fun M2 f2 => ?_)
      obtain ⟨b2, s2, t2, R2⟩ := RB M2 (fun k hk => f2 k (by omega))
      have C2 := hC.q hP (M' := M2) (fun k _ _ a => f2 k a) (fun j _ _ => by rw [f2 0 (by decide)]) (Or.inl ⟨by rw [f2 0 (by decide)], fun k a _ => f2 k (by omega)⟩) (hC.2.2.2.2.2.2.1.eq (by rw [f2 0 (by decide)]) (f2 89 (by decide)))
      refine vc116 (by omega) (r_isDoor (by omega) b2.2.2.1 (by omega) (fun _ _ _ => ⟨fun q => absurd q (by decide), fun _ => ?_⟩) (fun q => absurd rfl (q i hi)))
      refine (r_isDoor (by omega) b2.2.2.1 (by omega) (fun _ _ _ => ⟨fun q => absurd q (by decide), fun _ => ?_⟩) (fun q => absurd rfl (q j hj)))
      exact r_aloneOf hw.r (by omega) b2 hi hj (hK _ M2 (Inv.q ht hP C2 R2 (r_fr.rf M2)))
    · subst ei
      refine cx_ref (p := 1) rfl (by decide) (by decide) hP hC (fun M2 f2 C2 => ?_)
      have F2 : ∀ k, 97 ≤ k → M2 k = M k := fun k hk => f2 k (by omega)
      obtain ⟨b2, s2, t2, R2⟩ := RB M2 F2
      exact vc116 (by omega) (r_isDoor (by omega) b2.2.2.1 (by omega) (fun _ _ _ => ⟨fun q => absurd q (by decide), fun _ => (r_isDoor (by omega) b2.2.2.1 (by omega) (fun j hj e => absurd e (noj j hj)) (fun _ => ⟨fun _ => Inv.refR ht (p := 1) rfl (by decide) (by decide) hP C2 R2 (fun M4 I4 => hK _ M4 I4), fun q => absurd rfl q⟩))⟩) (fun q => absurd rfl (q i hi)))
  · refine cx_ref (p := 1) rfl (by decide) (by decide) hP hC (fun M2 f2 C2 => ?_)
    have F2 : ∀ k, 97 ≤ k → M2 k = M k := fun k hk => f2 k (by omega)
    obtain ⟨b2, s2, t2, R2⟩ := RB M2 F2
    exact vc116 (by omega) (r_isDoor (by omega) b2.2.2.1 (by omega) (fun j hj e => absurd e (noi j hj)) (fun _ => ⟨fun _ => Inv.refR ht (p := 1) rfl (by decide) (by decide) hP C2 R2 (fun M4 I4 => hK _ M4 I4), fun q => absurd rfl q⟩))
theorem call_cheap (hd : 100 ≤ d) (ht : t < 600) (hI : Inv t M) (hK : ∀ r M', Inv (t + 1) M' → K r r M') : q_two X d 54 131 [.ref 0] [.ref 97] M K := by
  obtain ⟨L, S, tp, rf, h, g, img, hP, hC, hR⟩ := hI
  obtain ⟨R, C, n, kd, co, nu, dc, wc, num, w, o, ks, se, ln, st⟩ := h
  have ho := hP.2.2.2.2.2.1
  have hw := ho.1
  have hRC := b_RC hw
  have hR6 := hw.1
  have hn3 := hw.2.2.1
  obtain ⟨hq, hsn, htw⟩ := h_c.q ho hC.2.2.2.2.2.1 hC.2.2.2.2.2.2.2.1
  have hb := hq.1
  have hco : ∀ c, c < R * C → co c ≤ 9 := fun c hc => (hw.2.2.2.2.1 c hc).2.1
  have RB : ∀ M2 : q_M, (∀ k, 97 ≤ k → M2 k = M k) → r_b M2 R C n kd co nu ∧ r_st M2 (R * C) n w o ks se ∧ r_tw M2 ln st ∧ IR M2 L tp rf (R, C, n, kd, co, nu, dc, wc, num, w, o, ks, se, ln, st) g img := fun M2 f => ⟨hR.2.2.2.1.b (f 99 (by decide)), (h_r.st ho hR.2.2.2.1 (f 99 (by decide))).1, (h_r.st ho hR.2.2.2.1 (f 99 (by decide))).2, hR.lo f⟩
  have n0 : 0 < R * C → 0 < n ∧ 0 < R := fun q => by
    rcases hw.2.2.2.1 with ⟨z1, z2, z3⟩ | ⟨z1, z2, z3⟩
    · subst z1; omega
    · omega
  have z0 : R * C = 0 → n = 0 ∧ R = 0 := fun q => by
    rcases hw.2.2.2.1 with ⟨z1, z2, z3⟩ | ⟨z1, z2, z3⟩
    · omega
    · have := Nat.mul_le_mul z1 z2; omega
  refine vc54 (by omega) (c_hasSlope hb.2.2.1 (by omega) (fun g0 => ⟨fun _ => ?_, fun q => absurd q (by decide)⟩) (fun g0 => ⟨fun q => absurd rfl q, fun _ => ?_⟩))
  · refine c_cheapIn hw (by omega) (n0 g0).1 hq (fun M2 f2 e2 k2 => ?_)
    obtain ⟨b2, s2, t2, R2⟩ := RB M2 (fr_hi f2)
    refine vc131 (by omega) (r_isSlope b2.1 (by omega) (fun _ => ⟨fun _ => ?_, fun q => absurd q (by decide)⟩) (fun q => by have := (n0 g0).2; omega))
    refine r_findsByLaw hw.r (wk := none) (by omega) b2 hco s2 (fun k e => by cases e) (fun M4 f4 w4 z4 => ?_)
    rw [z4.2.1]
    exact hK _ M4 (Inv.q ht hP (hC.qh hP f2 e2 k2) R2 f4.r)
  · refine cx_ref (p := 3) rfl (by decide) (by decide) hP hC (fun M2 f2 C2 => ?_)
    have F2 : ∀ k, 97 ≤ k → M2 k = M k := fun k hk => f2 k (by omega)
    obtain ⟨b2, s2, t2, R2⟩ := RB M2 F2
    exact vc131 (by omega) (r_isSlope b2.1 (by omega) (fun q => by have := z0 g0; omega) (fun _ => ⟨fun q => absurd rfl q, fun _ => Inv.refR ht (p := 3) rfl (by decide) (by decide) hP C2 R2 (fun M4 I4 => hK _ M4 I4)⟩))
theorem call_used {a b : Int32} (hd : 100 ≤ d) (ht : t < 600) (hI : Inv t M) (hK : ∀ r M', Inv (t + 1) M' → K r r M') : q_two X d 55 133 [.ref 0, .int a, .int b] [.ref 97, .int a, .int b] M K := by
  obtain ⟨L, S, tp, rf, h, g, img, hP, hC, hR⟩ := hI
  obtain ⟨R, C, n, kd, co, nu, dc, wc, num, w, o, ks, se, ln, st⟩ := h
  have ho := hP.2.2.2.2.2.1
  have hw := ho.1
  have hRC := b_RC hw
  have hR6 := hw.1
  have hn3 := hw.2.2.1
  obtain ⟨hq, hsn, htw⟩ := h_c.q ho hC.2.2.2.2.2.1 hC.2.2.2.2.2.2.2.1
  have hb := hq.1
  have hco : ∀ c, c < R * C → co c ≤ 9 := fun c hc => (hw.2.2.2.2.1 c hc).2.1
  have RB : ∀ M2 : q_M, (∀ k, 97 ≤ k → M2 k = M k) → r_b M2 R C n kd co nu ∧ r_st M2 (R * C) n w o ks se ∧ r_tw M2 ln st ∧ IR M2 L tp rf (R, C, n, kd, co, nu, dc, wc, num, w, o, ks, se, ln, st) g img := fun M2 f => ⟨hR.2.2.2.1.b (f 99 (by decide)), (h_r.st ho hR.2.2.2.1 (f 99 (by decide))).1, (h_r.st ho hR.2.2.2.1 (f 99 (by decide))).2, hR.lo f⟩
  have n0 : 0 < R * C → 0 < n ∧ 0 < R := fun q => by
    rcases hw.2.2.2.1 with ⟨z1, z2, z3⟩ | ⟨z1, z2, z3⟩
    · subst z1; omega
    · omega
  have z0 : R * C = 0 → n = 0 ∧ R = 0 := fun q => by
    rcases hw.2.2.2.1 with ⟨z1, z2, z3⟩ | ⟨z1, z2, z3⟩
    · omega
    · have := Nat.mul_le_mul z1 z2; omega
  refine vc55 (by omega) (c_hasCell hb.2.2.1 (by omega) (fun c hc ec => ⟨fun _ => ?_, fun q => absurd q (by decide)⟩) (fun noc => ⟨fun q => absurd rfl q, fun _ => ?_⟩))
  · subst ec
    have bad : (b < 0 ∨ ¬ b < 2) → q_Ci X (d - 1) 72 [.ref 0, .int (-2)] M (fun r6 M5 => q_Ci X d 133 [.ref 97, .int (nI c), .int b] M5 (fun r' M4 => K r6 r' M4)) := by
      intro hno
      refine cx_ref (p := 2) rfl (by decide) (by decide) hP hC (fun M2 f2 C2 => ?_)
      have F2 : ∀ k, 97 ≤ k → M2 k = M k := fun k hk => f2 k (by omega)
      obtain ⟨b2, s2, t2, R2⟩ := RB M2 F2
      exact vc133 (by omega) (r_isCell (by omega) b2 (by omega) (fun _ _ _ => ⟨fun _ => (r_isIn (fun q1 q2 => by rcases hno with z | z; exact absurd z q1; exact absurd q2 z) (fun _ => ⟨fun q => absurd rfl q, fun _ => Inv.refR ht (p := 2) rfl (by decide) (by decide) hP C2 R2 (fun M4 I4 => hK _ M4 I4)⟩)), fun q => absurd q (by decide)⟩) (fun q => absurd rfl (q c hc)))
    refine ⟨fun q => bad (Or.inl q), fun q0 => ⟨fun q1 => ?_, fun q1 => bad (Or.inr (fun q2 => q1 ?_))⟩⟩
    · obtain ⟨part, hp31, rfl⟩ := q_nn q0
      have hp : part < 2 := by have := (q_le (b := 1) hp31 (by decide)).mp q1; omega
      have hn0 := (n0 (by omega)).1
      refine c_usedIn (d := d) (K := fun r M13 => q_Ci X d 133 [.ref 97, .int (nI c), .int (nI part)] M13 (fun r' M4 => K r r' M4)) hw (by omega) hn0 hc hp hq (fun M2 f2 e2 k2 => ?_)
      obtain ⟨b2, s2, t2, R2⟩ := RB M2 (fr_hi f2)
      refine vc133 (by omega) (r_isCell (by omega) b2 (by omega) (fun _ _ _ => ⟨fun _ => ?_, fun q => absurd q (by decide)⟩) (fun q => absurd rfl (q c hc)))
      refine r_isIn (fun _ _ => ⟨fun _ => ?_, fun q => absurd q (by decide)⟩) (fun q => ?_)
      · exact r_usedIn (d := d) (K := K (nI (g_used (g_law (g_W R C kd dc) nu w o n).length (z_cnt (g_law (g_W R C kd dc) nu w o n) c) part))) hw.r (by omega) b2 hco s2 hc hp (fun M4 f4 => hK _ M4 (Inv.q ht hP (hC.qh hP f2 e2 k2) R2 f4.r))
      · rcases q with z | z
        · exact absurd z q0
        · exact absurd ((q_lt (b := 2) hp31 (by decide)).mpr hp) z
    · rw [Int32.lt_iff_toInt_lt] at q2
      rw [Int32.le_iff_toInt_le]
      have e1 : (1 : Int32).toInt = 1 := rfl
      have e2 : (2 : Int32).toInt = 2 := rfl
      omega
  · refine cx_ref (p := 1) rfl (by decide) (by decide) hP hC (fun M2 f2 C2 => ?_)
    have F2 : ∀ k, 97 ≤ k → M2 k = M k := fun k hk => f2 k (by omega)
    obtain ⟨b2, s2, t2, R2⟩ := RB M2 F2
    exact vc133 (by omega) (r_isCell (by omega) b2 (by omega) (fun j hj e => absurd e (noc j hj)) (fun _ => ⟨fun q => absurd rfl q, fun _ => Inv.refR ht (p := 1) rfl (by decide) (by decide) hP C2 R2 (fun M4 I4 => hK _ M4 I4)⟩))
theorem call_rank {a b c : Int32} (hd : 100 ≤ d) (ht : t < 600) (hI : Inv t M) (hK : ∀ r M', Inv (t + 1) M' → K r r M') : q_two X d 56 135 [.ref 0, .int a, .int b, .int c] [.ref 97, .int a, .int b, .int c] M K := by
  obtain ⟨L, S, tp, rf, h, g, img, hP, hC, hR⟩ := hI
  obtain ⟨R, C, n, kd, co, nu, dc, wc, num, w, o, ks, se, ln, st⟩ := h
  have ho := hP.2.2.2.2.2.1
  have hw := ho.1
  have hRC := b_RC hw
  have hR6 := hw.1
  have hn3 := hw.2.2.1
  obtain ⟨hq, hsn, htw⟩ := h_c.q ho hC.2.2.2.2.2.1 hC.2.2.2.2.2.2.2.1
  have hb := hq.1
  have hco : ∀ c, c < R * C → co c ≤ 9 := fun c hc => (hw.2.2.2.2.1 c hc).2.1
  have RB : ∀ M2 : q_M, (∀ k, 97 ≤ k → M2 k = M k) → r_b M2 R C n kd co nu ∧ r_st M2 (R * C) n w o ks se ∧ r_tw M2 ln st ∧ IR M2 L tp rf (R, C, n, kd, co, nu, dc, wc, num, w, o, ks, se, ln, st) g img := fun M2 f => ⟨hR.2.2.2.1.b (f 99 (by decide)), (h_r.st ho hR.2.2.2.1 (f 99 (by decide))).1, (h_r.st ho hR.2.2.2.1 (f 99 (by decide))).2, hR.lo f⟩
  have n0 : 0 < R * C → 0 < n ∧ 0 < R := fun q => by
    rcases hw.2.2.2.1 with ⟨z1, z2, z3⟩ | ⟨z1, z2, z3⟩
    · subst z1; omega
    · omega
  have z0 : R * C = 0 → n = 0 ∧ R = 0 := fun q => by
    rcases hw.2.2.2.1 with ⟨z1, z2, z3⟩ | ⟨z1, z2, z3⟩
    · omega
    · have := Nat.mul_le_mul z1 z2; omega
  refine vc56 (by omega) (c_hasDoor hb.2.2.2.2.1 (by omega) (fun i hi ei => ⟨fun _ => ?_, fun q => absurd q (by decide)⟩) (fun noi => ⟨fun q => absurd rfl q, fun _ => ?_⟩))
  · subst ei
    refine ⟨fun q0 => ?_, fun q0 => ⟨fun q1 => ?_, fun q1 => ?_⟩⟩
    · refine cx_ref (p := 4) rfl (by decide) (by decide) hP hC (fun M2 f2 C2 => ?_)
      have F2 : ∀ k, 97 ≤ k → M2 k = M k := fun k hk => f2 k (by omega)
      obtain ⟨b2, s2, t2, R2⟩ := RB M2 F2
      exact vc135 (by omega) (r_isDoor (by omega) b2.2.2.1 (by omega) (fun _ _ _ => ⟨fun _ => ⟨fun _ => Inv.refR ht (p := 4) rfl (by decide) (by decide) hP C2 R2 (fun M4 I4 => hK _ M4 I4), fun q => absurd q0 q⟩, fun q => absurd q (by decide)⟩) (fun q => absurd rfl (q i hi)))
    · obtain ⟨k, hk, rfl⟩ := q_nn q0
      obtain ⟨s, hs, rfl⟩ := q_nn' q1
      refine c_familiesByLaw hw (by omega) (by omega) hq (fun M2 f2 e2 k2 => ?_)
      have C2 := hC.qh hP f2 e2 k2
      have hq2 : c_q M2 R C n kd co nu dc wc w o := ⟨hb.eq (fun k a b => f2.1 k (by omega) (by omega)), hq.2.1.eq (f2.1 10 (by decide) (by omega)), fun _ => k2⟩
      refine c_stepOfRanked hw (by omega) hi hk hs hq2 e2 k2 C2.2.2.2.2.2.2.1 (fun M3 f3 sd3 rk3 => ?_)
      have C3 := C2.qc hP f3 sd3 rk3
      obtain ⟨b3, s3, t3, R3⟩ := RB M3 (fun k hk => by rw [fr_c f3 k hk, fr_hi f2 k hk])
      refine vc135 (by omega) (r_isDoor (by omega) b3.2.2.1 (by omega) (fun _ _ _ => ⟨fun _ => ⟨fun q => absurd q q0, fun _ => ⟨fun _ => ?_, fun q => absurd q1 q⟩⟩, fun q => absurd q (by decide)⟩) (fun q => absurd rfl (q i hi)))
      exact r_stepOf hw.r (by omega) b3 hco s3 hi hk hs (fun M4 f4 => hK _ M4 (Inv.q ht hP C3 R3 f4.r))
    · refine cx_ref (p := 4) rfl (by decide) (by decide) hP hC (fun M2 f2 C2 => ?_)
      have F2 : ∀ k, 97 ≤ k → M2 k = M k := fun k hk => f2 k (by omega)
      obtain ⟨b2, s2, t2, R2⟩ := RB M2 F2
      exact vc135 (by omega) (r_isDoor (by omega) b2.2.2.1 (by omega) (fun _ _ _ => ⟨fun _ => ⟨fun q => absurd q q0, fun _ => ⟨fun q => absurd q q1, fun _ => Inv.refR ht (p := 4) rfl (by decide) (by decide) hP C2 R2 (fun M4 I4 => hK _ M4 I4)⟩⟩, fun q => absurd q (by decide)⟩) (fun q => absurd rfl (q i hi)))
  · refine cx_ref (p := 1) rfl (by decide) (by decide) hP hC (fun M2 f2 C2 => ?_)
    have F2 : ∀ k, 97 ≤ k → M2 k = M k := fun k hk => f2 k (by omega)
    obtain ⟨b2, s2, t2, R2⟩ := RB M2 F2
    exact vc135 (by omega) (r_isDoor (by omega) b2.2.2.1 (by omega) (fun j hj e => absurd e (noi j hj)) (fun _ => ⟨fun q => absurd rfl q, fun _ => Inv.refR ht (p := 1) rfl (by decide) (by decide) hP C2 R2 (fun M4 I4 => hK _ M4 I4)⟩))
theorem call_drawn {a b c : Int32} (hd : 100 ≤ d) (ht : t < 600) (hI : Inv t M) (hK : ∀ r M', Inv (t + 1) M' → K r r M') : q_two X d 57 136 [.ref 0, .int a, .int b, .int c] [.ref 97, .int a, .int b, .int c] M K := by
  obtain ⟨L, S, tp, rf, h, g, img, hP, hC, hR⟩ := hI
  obtain ⟨R, C, n, kd, co, nu, dc, wc, num, w, o, ks, se, ln, st⟩ := h
  have ho := hP.2.2.2.2.2.1
  have hw := ho.1
  have hRC := b_RC hw
  have hR6 := hw.1
  have hn3 := hw.2.2.1
  obtain ⟨hq, hsn, htw⟩ := h_c.q ho hC.2.2.2.2.2.1 hC.2.2.2.2.2.2.2.1
  have hb := hq.1
  have hco : ∀ c, c < R * C → co c ≤ 9 := fun c hc => (hw.2.2.2.2.1 c hc).2.1
  have RB : ∀ M2 : q_M, (∀ k, 97 ≤ k → M2 k = M k) → r_b M2 R C n kd co nu ∧ r_st M2 (R * C) n w o ks se ∧ r_tw M2 ln st ∧ IR M2 L tp rf (R, C, n, kd, co, nu, dc, wc, num, w, o, ks, se, ln, st) g img := fun M2 f => ⟨hR.2.2.2.1.b (f 99 (by decide)), (h_r.st ho hR.2.2.2.1 (f 99 (by decide))).1, (h_r.st ho hR.2.2.2.1 (f 99 (by decide))).2, hR.lo f⟩
  have n0 : 0 < R * C → 0 < n ∧ 0 < R := fun q => by
    rcases hw.2.2.2.1 with ⟨z1, z2, z3⟩ | ⟨z1, z2, z3⟩
    · subst z1; omega
    · omega
  have z0 : R * C = 0 → n = 0 ∧ R = 0 := fun q => by
    rcases hw.2.2.2.1 with ⟨z1, z2, z3⟩ | ⟨z1, z2, z3⟩
    · omega
    · have := Nat.mul_le_mul z1 z2; omega
  have hlen := law_len (w := w) (o := o) hw
  refine vc57 (by omega) (c_hasDoor hb.2.2.2.2.1 (by omega) (fun i hi ei => ⟨fun _ => ?_, fun q => absurd q (by decide)⟩) (fun noi => ⟨fun q => absurd rfl q, fun _ => ?_⟩))
  · subst ei
    refine ⟨fun q1 => ?_, fun q1 => ?_⟩
    · obtain ⟨s, hs, rfl⟩ := q_nn' q1
      refine c_familiesByLaw hw (by omega) (by omega) hq (fun M2 f2 e2 k2 => ?_)
      have C2 := hC.qh hP f2 e2 k2
      rw [show (1 : Int32) = nI 1 from rfl, q_le (by decide) (by omega)]
      refine ⟨fun q2 => ?_, fun q2 => ?_⟩
      · refine c_drawBelow (by omega) (by omega) (fun e he ee => ?_)
        have hq2 : c_q M2 R C n kd co nu dc wc w o := ⟨hb.eq (fun k a b => f2.1 k (by omega) (by omega)), hq.2.1.eq (f2.1 10 (by decide) (by omega)), fun _ => k2⟩
        have hkm : e / 256 % (g_law (g_W R C kd dc) nu w o n).length < 2 ^ 31 := Nat.lt_of_lt_of_le (Nat.mod_lt _ (by omega)) (by omega)
        refine c_stepOfRanked hw (by omega) hi hkm hs hq2 e2 k2 C2.2.2.2.2.2.2.1 (fun M3 f3 sd3 rk3 => ?_)
        have C3 := C2.qc hP f3 sd3 rk3
        obtain ⟨b3, s3, t3, R3⟩ := RB M3 (fun k hk => by rw [fr_c f3 k hk, fr_hi f2 k hk])
        refine vc136 (by omega) (r_isDoor (by omega) b3.2.2.1 (by omega) (fun _ _ _ => ⟨fun _ => ⟨fun _ => ?_, fun q => absurd q1 q⟩, fun q => absurd q (by decide)⟩) (fun q => absurd rfl (q i hi)))
        refine r_allNow hw.r (by omega) b3 hco s3 (fun M5 f5 => ?_)
        have b5 := b3.eq (f5.1 99 (by decide) (by omega))
        have s5 := s3.eq (f5.1 99 (by decide) (by omega))
        refine ⟨fun q => ⟨q, ?_⟩, fun q => absurd ((q_eq (b := 0) (by omega) (by decide)).mp q) (by omega)⟩
        have hle : e / 256 ≤ e := Nat.div_le_self _ _
        rw [ee, show nI e / 256 = nI (e / 256) from pk_div (d := 256) he (by decide) (by decide), pk_rem (by omega) (by omega) (by omega)]
        exact r_stepOf hw.r (by omega) b5 hco s5 hi hkm hs (fun M6 f6 => hK _ M6 (Inv.q ht hP C3 R3 (f5.tr f6).r))
      · obtain ⟨b2, s2, t2, R2⟩ := RB M2 (fr_hi f2)
        refine vc136 (by omega) (r_isDoor (by omega) b2.2.2.1 (by omega) (fun _ _ _ => ⟨fun _ => ⟨fun _ => ?_, fun q => absurd q1 q⟩, fun q => absurd q (by decide)⟩) (fun q => absurd rfl (q i hi)))
        refine r_allNow hw.r (by omega) b2 hco s2 (fun M5 f5 => ⟨fun q => absurd (show nI (g_law (g_W R C kd dc) nu w o n).length = 0 by rw [show (g_law (g_W R C kd dc) nu w o n).length = 0 by omega]; rfl) q, fun _ => hK _ M5 (Inv.q ht hP C2 R2 f5.r)⟩)
    · refine cx_ref (p := 4) rfl (by decide) (by decide) hP hC (fun M2 f2 C2 => ?_)
      have F2 : ∀ k, 97 ≤ k → M2 k = M k := fun k hk => f2 k (by omega)
      obtain ⟨b2, s2, t2, R2⟩ := RB M2 F2
      exact vc136 (by omega) (r_isDoor (by omega) b2.2.2.1 (by omega) (fun _ _ _ => ⟨fun _ => ⟨fun q => absurd q q1, fun _ => Inv.refR ht (p := 4) rfl (by decide) (by decide) hP C2 R2 (fun M4 I4 => hK _ M4 I4)⟩, fun q => absurd q (by decide)⟩) (fun q => absurd rfl (q i hi)))
  · refine cx_ref (p := 1) rfl (by decide) (by decide) hP hC (fun M2 f2 C2 => ?_)
    have F2 : ∀ k, 97 ≤ k → M2 k = M k := fun k hk => f2 k (by omega)
    obtain ⟨b2, s2, t2, R2⟩ := RB M2 F2
    exact vc136 (by omega) (r_isDoor (by omega) b2.2.2.1 (by omega) (fun j hj e => absurd e (noi j hj)) (fun _ => ⟨fun q => absurd rfl q, fun _ => Inv.refR ht (p := 1) rfl (by decide) (by decide) hP C2 R2 (fun M4 I4 => hK _ M4 I4)⟩))
theorem call_most (hd : 100 ≤ d) (ht : t < 600) (hI : Inv t M) (hK : ∀ r M', Inv (t + 1) M' → K r r M') : q_two X d 58 139 [.ref 0] [.ref 97] M K := by
  obtain ⟨L, S, tp, rf, h, g, img, hP, hC, hR⟩ := hI
  obtain ⟨R, C, n, kd, co, nu, dc, wc, num, w, o, ks, se, ln, st⟩ := h
  have ho := hP.2.2.2.2.2.1
  have hw := ho.1
  have hRC := b_RC hw
  have hR6 := hw.1
  have hn3 := hw.2.2.1
  obtain ⟨hq, hsn, htw⟩ := h_c.q ho hC.2.2.2.2.2.1 hC.2.2.2.2.2.2.2.1
  have hb := hq.1
  have hco : ∀ c, c < R * C → co c ≤ 9 := fun c hc => (hw.2.2.2.2.1 c hc).2.1
  have RB : ∀ M2 : q_M, (∀ k, 97 ≤ k → M2 k = M k) → r_b M2 R C n kd co nu ∧ r_st M2 (R * C) n w o ks se ∧ r_tw M2 ln st ∧ IR M2 L tp rf (R, C, n, kd, co, nu, dc, wc, num, w, o, ks, se, ln, st) g img := fun M2 f => ⟨hR.2.2.2.1.b (f 99 (by decide)), (h_r.st ho hR.2.2.2.1 (f 99 (by decide))).1, (h_r.st ho hR.2.2.2.1 (f 99 (by decide))).2, hR.lo f⟩
  have n0 : 0 < R * C → 0 < n ∧ 0 < R := fun q => by
    rcases hw.2.2.2.1 with ⟨z1, z2, z3⟩ | ⟨z1, z2, z3⟩
    · subst z1; omega
    · omega
  have z0 : R * C = 0 → n = 0 ∧ R = 0 := fun q => by
    rcases hw.2.2.2.1 with ⟨z1, z2, z3⟩ | ⟨z1, z2, z3⟩
    · omega
    · have := Nat.mul_le_mul z1 z2; omega
  refine vc58 (by omega) (c_studyNow hw (by omega) hb hq.2.2 (fun M2 f2 e2 k2 => ⟨rfl, ?_⟩))
  obtain ⟨b2, s2, t2, R2⟩ := RB M2 (fr_hi f2)
  rw [k2.2.2.1, (t_ms_max (g_W R C kd dc) n).1]
  refine vc139 (by omega) (r_mostNow hw.r (by omega) b2 (fun M4 f4 => hK _ M4 (Inv.q ht hP (hC.qh hP f2 e2 k2) R2 ⟨fun k hk => f4 k (by omega), by rw [f4 97 (by omega)], by rw [f4 97 (by omega)]⟩)))
theorem call_shuts (hd : 100 ≤ d) (ht : t < 600) (hI : Inv t M) (hK : ∀ r M', Inv (t + 1) M' → K r r M') : q_two X d 59 140 [.ref 0] [.ref 97] M K := by
  obtain ⟨L, S, tp, rf, h, g, img, hP, hC, hR⟩ := hI
  obtain ⟨R, C, n, kd, co, nu, dc, wc, num, w, o, ks, se, ln, st⟩ := h
  have ho := hP.2.2.2.2.2.1
  have hw := ho.1
  have hRC := b_RC hw
  have hR6 := hw.1
  have hn3 := hw.2.2.1
  obtain ⟨hq, hsn, htw⟩ := h_c.q ho hC.2.2.2.2.2.1 hC.2.2.2.2.2.2.2.1
  have hb := hq.1
  have hco : ∀ c, c < R * C → co c ≤ 9 := fun c hc => (hw.2.2.2.2.1 c hc).2.1
  have RB : ∀ M2 : q_M, (∀ k, 97 ≤ k → M2 k = M k) → r_b M2 R C n kd co nu ∧ r_st M2 (R * C) n w o ks se ∧ r_tw M2 ln st ∧ IR M2 L tp rf (R, C, n, kd, co, nu, dc, wc, num, w, o, ks, se, ln, st) g img := fun M2 f => ⟨hR.2.2.2.1.b (f 99 (by decide)), (h_r.st ho hR.2.2.2.1 (f 99 (by decide))).1, (h_r.st ho hR.2.2.2.1 (f 99 (by decide))).2, hR.lo f⟩
  have n0 : 0 < R * C → 0 < n ∧ 0 < R := fun q => by
    rcases hw.2.2.2.1 with ⟨z1, z2, z3⟩ | ⟨z1, z2, z3⟩
    · subst z1; omega
    · omega
  have z0 : R * C = 0 → n = 0 ∧ R = 0 := fun q => by
    rcases hw.2.2.2.1 with ⟨z1, z2, z3⟩ | ⟨z1, z2, z3⟩
    · omega
    · have := Nat.mul_le_mul z1 z2; omega
  refine vc59 (by omega) (c_studyNow hw (by omega) hb hq.2.2 (fun M2 f2 e2 k2 => ⟨rfl, ?_⟩))
  obtain ⟨b2, s2, t2, R2⟩ := RB M2 (fr_hi f2)
  obtain ⟨x, x1, x2, x3⟩ := k2.2.2.2.1
  rw [x2]
  refine r_shuts hw.r (by omega) b2 (fun M4 y f4 y1 y2 => ?_)
  rw [g_shut_eq hw.r x3 y2]
  exact hK _ M4 (Inv.q ht hP (hC.qh hP f2 e2 k2) R2 f4)
theorem call_fits (hd : 100 ≤ d) (ht : t < 600) (hI : Inv t M) (hK : ∀ r M', Inv (t + 1) M' → K r r M') : q_two X d 61 142 [.ref 0] [.ref 97] M K := by
  obtain ⟨L, S, tp, rf, h, g, img, hP, hC, hR⟩ := hI
  obtain ⟨R, C, n, kd, co, nu, dc, wc, num, w, o, ks, se, ln, st⟩ := h
  have ho := hP.2.2.2.2.2.1
  have hw := ho.1
  have hRC := b_RC hw
  have hR6 := hw.1
  have hn3 := hw.2.2.1
  obtain ⟨hq, hsn, htw⟩ := h_c.q ho hC.2.2.2.2.2.1 hC.2.2.2.2.2.2.2.1
  have hb := hq.1
  have hco : ∀ c, c < R * C → co c ≤ 9 := fun c hc => (hw.2.2.2.2.1 c hc).2.1
  have RB : ∀ M2 : q_M, (∀ k, 97 ≤ k → M2 k = M k) → r_b M2 R C n kd co nu ∧ r_st M2 (R * C) n w o ks se ∧ r_tw M2 ln st ∧ IR M2 L tp rf (R, C, n, kd, co, nu, dc, wc, num, w, o, ks, se, ln, st) g img := fun M2 f => ⟨hR.2.2.2.1.b (f 99 (by decide)), (h_r.st ho hR.2.2.2.1 (f 99 (by decide))).1, (h_r.st ho hR.2.2.2.1 (f 99 (by decide))).2, hR.lo f⟩
  have n0 : 0 < R * C → 0 < n ∧ 0 < R := fun q => by
    rcases hw.2.2.2.1 with ⟨z1, z2, z3⟩ | ⟨z1, z2, z3⟩
    · subst z1; omega
    · omega
  have z0 : R * C = 0 → n = 0 ∧ R = 0 := fun q => by
    rcases hw.2.2.2.1 with ⟨z1, z2, z3⟩ | ⟨z1, z2, z3⟩
    · omega
    · have := Nat.mul_le_mul z1 z2; omega
  rcases Nat.eq_zero_or_pos (R * C) with g0 | g0
  · refine vc61 (by omega) (c_hasSlope hb.2.2.1 (by omega) (fun q => by omega) (fun _ => ⟨fun q => absurd rfl q, fun _ => ?_⟩))
    refine cx_ref (p := 3) rfl (by decide) (by decide) hP hC (fun M2 f2 C2 => ?_)
    have F2 : ∀ k, 97 ≤ k → M2 k = M k := fun k hk => f2 k (by omega)
    obtain ⟨b2, s2, t2, R2⟩ := RB M2 F2
    exact vc142 (by omega) (r_isSlope b2.1 (by omega) (fun q => by have := z0 g0; omega) (fun _ => ⟨fun q => absurd rfl q, fun _ => Inv.refR ht (p := 3) rfl (by decide) (by decide) hP C2 R2 (fun M4 I4 => hK _ M4 I4)⟩))
  · refine c_fits hw (by omega) (n0 g0).1 hq hsn (fun M2 f2 sd2 a2 r2 => ?_)
    obtain ⟨b2, s2, t2, R2⟩ := RB M2 (fr_c f2)
    refine vc142 (by omega) (r_isSlope b2.1 (by omega) (fun _ => ⟨fun _ => ?_, fun q => absurd q (by decide)⟩) (fun q => by have := (n0 g0).2; omega))
    refine r_findsByLaw hw.r (wk := none) (by omega) b2 hco s2 (fun k e => by cases e) (fun M4 f4 w4 z4 => ?_)
    rw [z4.2.2.1]
    exact hK _ M4 (Inv.q ht hP (hC.qc hP f2 sd2 (hC.2.2.2.2.2.2.1.eq r2 a2)) R2 f4.r)
theorem call_who {a : Int32} (hd : 100 ≤ d) (ht : t < 600) (hI : Inv t M) (hK : ∀ r M', Inv (t + 1) M' → K r r M') : q_two X d 62 143 [.ref 0, .int a] [.ref 97, .int a] M K := by
  obtain ⟨L, S, tp, rf, h, g, img, hP, hC, hR⟩ := hI
  obtain ⟨R, C, n, kd, co, nu, dc, wc, num, w, o, ks, se, ln, st⟩ := h
  have ho := hP.2.2.2.2.2.1
  have hw := ho.1
  have hRC := b_RC hw
  have hR6 := hw.1
  have hn3 := hw.2.2.1
  obtain ⟨hq, hsn, htw⟩ := h_c.q ho hC.2.2.2.2.2.1 hC.2.2.2.2.2.2.2.1
  have hb := hq.1
  have hco : ∀ c, c < R * C → co c ≤ 9 := fun c hc => (hw.2.2.2.2.1 c hc).2.1
  have RB : ∀ M2 : q_M, (∀ k, 97 ≤ k → M2 k = M k) → r_b M2 R C n kd co nu ∧ r_st M2 (R * C) n w o ks se ∧ r_tw M2 ln st ∧ IR M2 L tp rf (R, C, n, kd, co, nu, dc, wc, num, w, o, ks, se, ln, st) g img := fun M2 f => ⟨hR.2.2.2.1.b (f 99 (by decide)), (h_r.st ho hR.2.2.2.1 (f 99 (by decide))).1, (h_r.st ho hR.2.2.2.1 (f 99 (by decide))).2, hR.lo f⟩
  have n0 : 0 < R * C → 0 < n ∧ 0 < R := fun q => by
    rcases hw.2.2.2.1 with ⟨z1, z2, z3⟩ | ⟨z1, z2, z3⟩
    · subst z1; omega
    · omega
  have z0 : R * C = 0 → n = 0 ∧ R = 0 := fun q => by
    rcases hw.2.2.2.1 with ⟨z1, z2, z3⟩ | ⟨z1, z2, z3⟩
    · omega
    · have := Nat.mul_le_mul z1 z2; omega
  refine vc62 (by omega) (c_hasCell hb.2.2.1 (by omega) (fun c hc ec => ⟨fun _ => ?_, fun q => absurd q (by decide)⟩) (fun noc => ⟨fun q => absurd rfl q, fun _ => ?_⟩))
  · subst ec
    refine c_whoIn hw (by omega) (n0 (by omega)).1 hc hq (fun M2 f2 e2 k2 => ?_)
    obtain ⟨b2, s2, t2, R2⟩ := RB M2 (fr_hi f2)
    refine vc143 (by omega) (r_isCell (by omega) b2 (by omega) (fun _ _ _ => ⟨fun _ => ?_, fun q => absurd q (by decide)⟩) (fun q => absurd rfl (q c hc)))
    refine r_findsByLaw hw.r (wk := none) (by omega) b2 hco s2 (fun k e => by cases e) (fun M4 f4 w4 z4 => ⟨q_vi (by omega) (by decide), ?_⟩)
    rw [q_cn (by omega), (z4.2.2.2.2.2.1 c hc).2]
    exact hK _ M4 (Inv.q ht hP (hC.qh hP f2 e2 k2) R2 f4.r)
  · refine cx_ref (p := 1) rfl (by decide) (by decide) hP hC (fun M2 f2 C2 => ?_)
    have F2 : ∀ k, 97 ≤ k → M2 k = M k := fun k hk => f2 k (by omega)
    obtain ⟨b2, s2, t2, R2⟩ := RB M2 F2
    exact vc143 (by omega) (r_isCell (by omega) b2 (by omega) (fun j hj e => absurd e (noc j hj)) (fun _ => ⟨fun q => absurd rfl q, fun _ => Inv.refR ht (p := 1) rfl (by decide) (by decide) hP C2 R2 (fun M4 I4 => hK _ M4 I4)⟩))
theorem call_lost {a : Int32} (hd : 100 ≤ d) (ht : t < 600) (hI : Inv t M) (hK : ∀ r M', Inv (t + 1) M' → K r r M') : q_two X d 63 144 [.ref 0, .int a] [.ref 97, .int a] M K := by
  obtain ⟨L, S, tp, rf, h, g, img, hP, hC, hR⟩ := hI
  obtain ⟨R, C, n, kd, co, nu, dc, wc, num, w, o, ks, se, ln, st⟩ := h
  have ho := hP.2.2.2.2.2.1
  have hw := ho.1
  have hRC := b_RC hw
  have hR6 := hw.1
  have hn3 := hw.2.2.1
  obtain ⟨hq, hsn, htw⟩ := h_c.q ho hC.2.2.2.2.2.1 hC.2.2.2.2.2.2.2.1
  have hb := hq.1
  have hco : ∀ c, c < R * C → co c ≤ 9 := fun c hc => (hw.2.2.2.2.1 c hc).2.1
  have RB : ∀ M2 : q_M, (∀ k, 97 ≤ k → M2 k = M k) → r_b M2 R C n kd co nu ∧ r_st M2 (R * C) n w o ks se ∧ r_tw M2 ln st ∧ IR M2 L tp rf (R, C, n, kd, co, nu, dc, wc, num, w, o, ks, se, ln, st) g img := fun M2 f => ⟨hR.2.2.2.1.b (f 99 (by decide)), (h_r.st ho hR.2.2.2.1 (f 99 (by decide))).1, (h_r.st ho hR.2.2.2.1 (f 99 (by decide))).2, hR.lo f⟩
  have n0 : 0 < R * C → 0 < n ∧ 0 < R := fun q => by
    rcases hw.2.2.2.1 with ⟨z1, z2, z3⟩ | ⟨z1, z2, z3⟩
    · subst z1; omega
    · omega
  have z0 : R * C = 0 → n = 0 ∧ R = 0 := fun q => by
    rcases hw.2.2.2.1 with ⟨z1, z2, z3⟩ | ⟨z1, z2, z3⟩
    · omega
    · have := Nat.mul_le_mul z1 z2; omega
  refine vc63 (by omega) (c_hasCell hb.2.2.1 (by omega) (fun c hc ec => ⟨fun _ => ?_, fun q => absurd q (by decide)⟩) (fun noc => ⟨fun q => absurd rfl q, fun _ => ?_⟩))
  · subst ec
    obtain ⟨hkc, -, -⟩ := hb.2.2.2.2.2.1 c hc
    have hk3 := (hw.2.2.2.2.1 c hc).1
    refine ⟨q_vi (by omega) (by decide), ?_⟩
    rw [q_cn (by omega), hkc, show (0 : Int32) = nI 0 from rfl, q_eq (by omega) (by decide)]
    refine ⟨fun q0 => ?_, fun q0 => ?_⟩
    · refine c_famThrough hw (by omega) (n0 (by omega)).1 hc hq (fun M2 f2 e2 k2 => ?_)
      obtain ⟨b2, s2, t2, R2⟩ := RB M2 (fr_hi f2)
      refine vc144 (by omega) (r_isCell (by omega) b2 (by omega) (fun _ _ _ => ⟨fun _ => ?_, fun q => absurd q (by decide)⟩) (fun q => absurd rfl (q c hc)))
      refine r_what (by omega) ?_
      rw [(b2.2.2.2 c hc).1, q0]
      refine ⟨fun q => absurd rfl q, fun _ => ?_⟩
      exact r_lostIn hw.r (by omega) b2 hco s2 hc q0 (fun M4 f4 => hK _ M4 (Inv.q ht hP (hC.qh hP f2 e2 k2) R2 f4))
    · refine cx_ref (p := 3) rfl (by decide) (by decide) hP hC (fun M2 f2 C2 => ?_)
      have F2 : ∀ k, 97 ≤ k → M2 k = M k := fun k hk => f2 k (by omega)
      obtain ⟨b2, s2, t2, R2⟩ := RB M2 F2
      refine vc144 (by omega) (r_isCell (by omega) b2 (by omega) (fun _ _ _ => ⟨fun _ => ?_, fun q => absurd q (by decide)⟩) (fun q => absurd rfl (q c hc)))
      refine r_what (by omega) ?_
      rw [(b2.2.2.2 c hc).1]
      exact ⟨fun _ => Inv.refR ht (p := 3) rfl (by decide) (by decide) hP C2 R2 (fun M4 I4 => hK _ M4 I4), fun q => absurd ((q_eq (b := 0) (by omega) (by decide)).mp q) q0⟩
  · refine cx_ref (p := 1) rfl (by decide) (by decide) hP hC (fun M2 f2 C2 => ?_)
    have F2 : ∀ k, 97 ≤ k → M2 k = M k := fun k hk => f2 k (by omega)
    obtain ⟨b2, s2, t2, R2⟩ := RB M2 F2
    exact vc144 (by omega) (r_isCell (by omega) b2 (by omega) (fun j hj e => absurd e (noc j hj)) (fun _ => ⟨fun q => absurd rfl q, fun _ => Inv.refR ht (p := 1) rfl (by decide) (by decide) hP C2 R2 (fun M4 I4 => hK _ M4 I4)⟩))
theorem call_few (hd : 100 ≤ d) (ht : t < 600) (hI : Inv t M) (hK : ∀ r M', Inv (t + 1) M' → K r r M') : q_two X d 64 145 [.ref 0] [.ref 97] M K := by
  obtain ⟨L, S, tp, rf, h, g, img, hP, hC, hR⟩ := hI
  obtain ⟨R, C, n, kd, co, nu, dc, wc, num, w, o, ks, se, ln, st⟩ := h
  have ho := hP.2.2.2.2.2.1
  have hw := ho.1
  have hRC := b_RC hw
  have hR6 := hw.1
  have hn3 := hw.2.2.1
  obtain ⟨hq, hsn, htw⟩ := h_c.q ho hC.2.2.2.2.2.1 hC.2.2.2.2.2.2.2.1
  have hb := hq.1
  have hco : ∀ c, c < R * C → co c ≤ 9 := fun c hc => (hw.2.2.2.2.1 c hc).2.1
  have RB : ∀ M2 : q_M, (∀ k, 97 ≤ k → M2 k = M k) → r_b M2 R C n kd co nu ∧ r_st M2 (R * C) n w o ks se ∧ r_tw M2 ln st ∧ IR M2 L tp rf (R, C, n, kd, co, nu, dc, wc, num, w, o, ks, se, ln, st) g img := fun M2 f => ⟨hR.2.2.2.1.b (f 99 (by decide)), (h_r.st ho hR.2.2.2.1 (f 99 (by decide))).1, (h_r.st ho hR.2.2.2.1 (f 99 (by decide))).2, hR.lo f⟩
  have n0 : 0 < R * C → 0 < n ∧ 0 < R := fun q => by
    rcases hw.2.2.2.1 with ⟨z1, z2, z3⟩ | ⟨z1, z2, z3⟩
    · subst z1; omega
    · omega
  have z0 : R * C = 0 → n = 0 ∧ R = 0 := fun q => by
    rcases hw.2.2.2.1 with ⟨z1, z2, z3⟩ | ⟨z1, z2, z3⟩
    · omega
    · have := Nat.mul_le_mul z1 z2; omega
  refine c_few hw (by omega) hb (fun M2 f2 => ?_)
  obtain ⟨b2, s2, t2, R2⟩ := RB M2 (fun k hk => f2 k (by omega) (by omega) (by omega) (by omega))
  have C2 := hC.q hP (M' := M2) (fun k _ a _ => f2 k (by omega) (by omega) (by omega) (by omega)) (fun j _ _ => by rw [f2 0 (by omega) (by decide) (by decide) (by decide)]) (Or.inl ⟨by rw [f2 0 (by omega) (by decide) (by decide) (by decide)], fun k a b => f2 k (by omega) (by omega) (by omega) (by omega)⟩) (hC.2.2.2.2.2.2.1.eq (by rw [f2 0 (by omega) (by decide) (by decide) (by decide)]) (f2 89 (by omega) (by decide) (by decide) (by decide)))
  exact r_few hw.r (ks := ks) (se := se) (by omega) b2 hco s2.2.2.2.1 s2.2.2.2.2.1 s2.2.2.2.2.2 (fun M4 f4 => hK _ M4 (Inv.q ht hP C2 R2 f4))
theorem call_boxes {a b c : Int32} (hd : 100 ≤ d) (ht : t < 600) (hI : Inv t M) (hK : ∀ r M', Inv (t + 1) M' → K r r M') : q_two X d 65 147 [.ref 0, .int a, .int b, .int c] [.ref 97, .int a, .int b, .int c] M K := by
  obtain ⟨L, S, tp, rf, h, g, img, hP, hC, hR⟩ := hI
  obtain ⟨R, C, n, kd, co, nu, dc, wc, num, w, o, ks, se, ln, st⟩ := h
  have ho := hP.2.2.2.2.2.1
  have hw := ho.1
  have hRC := b_RC hw
  have hR6 := hw.1
  have hn3 := hw.2.2.1
  obtain ⟨hq, hsn, htw⟩ := h_c.q ho hC.2.2.2.2.2.1 hC.2.2.2.2.2.2.2.1
  have hb := hq.1
  have hco : ∀ c, c < R * C → co c ≤ 9 := fun c hc => (hw.2.2.2.2.1 c hc).2.1
  have RB : ∀ M2 : q_M, (∀ k, 97 ≤ k → M2 k = M k) → r_b M2 R C n kd co nu ∧ r_st M2 (R * C) n w o ks se ∧ r_tw M2 ln st ∧ IR M2 L tp rf (R, C, n, kd, co, nu, dc, wc, num, w, o, ks, se, ln, st) g img := fun M2 f => ⟨hR.2.2.2.1.b (f 99 (by decide)), (h_r.st ho hR.2.2.2.1 (f 99 (by decide))).1, (h_r.st ho hR.2.2.2.1 (f 99 (by decide))).2, hR.lo f⟩
  have n0 : 0 < R * C → 0 < n ∧ 0 < R := fun q => by
    rcases hw.2.2.2.1 with ⟨z1, z2, z3⟩ | ⟨z1, z2, z3⟩
    · subst z1; omega
    · omega
  have z0 : R * C = 0 → n = 0 ∧ R = 0 := fun q => by
    rcases hw.2.2.2.1 with ⟨z1, z2, z3⟩ | ⟨z1, z2, z3⟩
    · omega
    · have := Nat.mul_le_mul z1 z2; omega
  have low : ∀ x : Int32, ¬ x < 0 → ¬ 4 < x → ∃ v, v < 5 ∧ x = nI v := fun x h1 h2 => by
    obtain ⟨v, hv, rfl⟩ := q_nn h1
    refine ⟨v, ?_, rfl⟩
    rcases Nat.lt_or_ge v 5 with z | z
    · exact z
    · exact absurd ((q_lt (a := 4) (by decide) hv).mpr (by omega)) h2
  have flip : ∀ x : Int32, x ≤ 4 ↔ ¬ 4 < x := fun x => by rw [Int32.le_iff_toInt_le, Int32.lt_iff_toInt_lt]; omega
  have flip0 : ∀ x : Int32, 0 ≤ x ↔ ¬ x < 0 := fun x => by rw [Int32.le_iff_toInt_le, Int32.lt_iff_toInt_lt]; omega
  have bad : ∀ (p : Nat) (e : Int32), -e = nI p → 1 ≤ p → p < 7 → (∀ M2, (∀ K2 : Int32 → q_M → Prop, (q_Ci X (d - 1) 91 [.ref 97, .int e] M2 K2) → q_Ci X d 147 [.ref 97, .int a, .int b, .int c] M2 K2)) → q_Ci X (d - 1) 72 [.ref 0, .int e] M (fun r3 M2 => q_Ci X d 147 [.ref 97, .int a, .int b, .int c] M2 (fun r' M4 => K r3 r' M4)) := by
    intro p e hp h1 h2 hwk
    refine cx_ref hp h1 h2 hP hC (fun M2 f2 C2 => ?_)
    obtain ⟨b2, s2, t2, R2⟩ := RB M2 (fun k hk => f2 k (by omega))
    exact hwk M2 _ (Inv.refR ht hp h1 h2 hP C2 R2 (fun M4 I4 => hK _ M4 I4))
  refine vc65 (by omega) ⟨fun q1 => bad 4 (-4) rfl (by decide) (by decide) (fun M2 K2 z => vc147 (by omega) ⟨fun _ => z, fun y => absurd q1 y⟩), fun q1 => ⟨fun q2 => bad 4 (-4) rfl (by decide) (by decide) (fun M2 K2 z => vc147 (by omega) ⟨fun y => absurd y q1, fun _ => ⟨fun _ => z, fun y => absurd q2 y⟩⟩), fun q2 => ⟨fun q3 => ⟨fun q4 => bad 6 (-6) rfl (by decide) (by decide) (fun M2 K2 z => vc147 (by omega) ⟨fun y => absurd y q1, fun _ => ⟨fun y => absurd y q2, fun _ => ⟨fun _ => ⟨fun _ => z, fun y => absurd q4 y⟩, fun y => absurd q3 y⟩⟩⟩), fun q4 => ⟨fun q5 => bad 6 (-6) rfl (by decide) (by decide) (fun M2 K2 z => vc147 (by omega) ⟨fun y => absurd y q1, fun _ => ⟨fun y => absurd y q2, fun _ => ⟨fun _ => ⟨fun y => absurd y q4, fun _ => ⟨fun _ => z, fun y => absurd q5 y⟩⟩, fun y => absurd q3 y⟩⟩⟩), fun q5 => ⟨fun q6 => ?_, fun q6 => bad 6 (-6) rfl (by decide) (by decide) (fun M2 K2 z => vc147 (by omega) ⟨fun y => absurd y q1, fun _ => ⟨fun y => absurd y q2, fun _ => ⟨fun _ => ⟨fun y => absurd y q4, fun _ => ⟨fun y => absurd y q5, fun _ => ⟨fun y => absurd y q6, fun _ => z⟩⟩⟩, fun y => absurd q3 y⟩⟩⟩)⟩⟩⟩, fun q3 => bad 4 (-4) rfl (by decide) (by decide) (fun M2 K2 z => vc147 (by omega) ⟨fun y => absurd y q1, fun _ => ⟨fun y => absurd y q2, fun _ => ⟨fun y => absurd y q3, fun _ => z⟩⟩⟩)⟩⟩⟩
  obtain ⟨x, hx, rfl⟩ := low a q1 q4
  obtain ⟨y, hy, rfl⟩ := low b q2 q5
  obtain ⟨z, hz, rfl⟩ := low c ((flip0 c).mp q3) ((flip c).mp q6)
  refine c_boxes (by omega) hx hy hz ?_
  refine vc147 (by omega) ⟨fun y => absurd y q1, fun _ => ⟨fun y => absurd y q2, fun _ => ⟨fun _ => ⟨fun y => absurd y q4, fun _ => ⟨fun y => absurd y q5, fun _ => ⟨fun _ => ?_, fun y => absurd q6 y⟩⟩⟩, fun y => absurd q3 y⟩⟩⟩
  exact r_boxes (by omega) hx hy hz (hK _ M (Inv.q ht hP hC hR (r_fr.rf M)))
theorem call_judge (hd : 100 ≤ d) (ht : t < 600) (hI : Inv t M) (hK : ∀ r M', Inv (t + 1) M' → K r r M') : q_two X d 67 150 [.ref 0] [.ref 97] M K := by
  obtain ⟨L, S, tp, rf, h, g, img, hP, hC, hR⟩ := hI
  obtain ⟨R, C, n, kd, co, nu, dc, wc, num, w, o, ks, se, ln, st⟩ := h
  have ho := hP.2.2.2.2.2.1
  have hw := ho.1
  have hRC := b_RC hw
  have hR6 := hw.1
  have hn3 := hw.2.2.1
  obtain ⟨hq, hsn, htw⟩ := h_c.q ho hC.2.2.2.2.2.1 hC.2.2.2.2.2.2.2.1
  have hb := hq.1
  have hco : ∀ c, c < R * C → co c ≤ 9 := fun c hc => (hw.2.2.2.2.1 c hc).2.1
  have RB : ∀ M2 : q_M, (∀ k, 97 ≤ k → M2 k = M k) → r_b M2 R C n kd co nu ∧ r_st M2 (R * C) n w o ks se ∧ r_tw M2 ln st ∧ IR M2 L tp rf (R, C, n, kd, co, nu, dc, wc, num, w, o, ks, se, ln, st) g img := fun M2 f => ⟨hR.2.2.2.1.b (f 99 (by decide)), (h_r.st ho hR.2.2.2.1 (f 99 (by decide))).1, (h_r.st ho hR.2.2.2.1 (f 99 (by decide))).2, hR.lo f⟩
  have n0 : 0 < R * C → 0 < n ∧ 0 < R := fun q => by
    rcases hw.2.2.2.1 with ⟨z1, z2, z3⟩ | ⟨z1, z2, z3⟩
    · subst z1; omega
    · omega
  have z0 : R * C = 0 → n = 0 ∧ R = 0 := fun q => by
    rcases hw.2.2.2.1 with ⟨z1, z2, z3⟩ | ⟨z1, z2, z3⟩
    · omega
    · have := Nat.mul_le_mul z1 z2; omega
  refine vc67 (by omega) (c_hasSlope hb.2.2.1 (by omega) (fun g0 => ⟨fun _ => ?_, fun q => absurd q (by decide)⟩) (fun g0 => ⟨fun q => absurd rfl q, fun _ => ?_⟩))
  · refine c_judgeIn hw (by omega) hb hq.2.1 htw ?_
    obtain ⟨b2, s2, t2, R2⟩ := RB M (fun _ _ => rfl)
    refine vc150 (by omega) (r_isSlope b2.1 (by omega) (fun _ => ⟨fun _ => ?_, fun q => absurd q (by decide)⟩) (fun q => by have := (n0 g0).2; omega))
    exact r_judgeIn hw.r (by omega) b2 s2 t2 (fun M4 f4 => hK _ M4 (Inv.q ht hP hC R2 f4))
  · refine cx_ref (p := 3) rfl (by decide) (by decide) hP hC (fun M2 f2 C2 => ?_)
    have F2 : ∀ k, 97 ≤ k → M2 k = M k := fun k hk => f2 k (by omega)
    obtain ⟨b2, s2, t2, R2⟩ := RB M2 F2
    exact vc150 (by omega) (r_isSlope b2.1 (by omega) (fun q => by have := z0 g0; omega) (fun _ => ⟨fun q => absurd rfl q, fun _ => Inv.refR ht (p := 3) rfl (by decide) (by decide) hP C2 R2 (fun M4 I4 => hK _ M4 I4)⟩))
end Calls2
