/-! the calls that change what is held -/
section Calls3a
variable {R C n num w o ks : Nat} {kd co nu dc wc se ln : Nat → Nat} {st : Nat → Nat → Nat} {M : q_M}
theorem hF_e : h_F (R, C, n, kd, co, nu, dc, wc, num, w, o, ks, se, ln, st) = g_law (g_W R C kd dc) nu w o n := rfl
theorem hk_e : h_k M (R, C, n, kd, co, nu, dc, wc, num, w, o, ks, se, ln, st) = k_ok M R C n kd co nu dc wc := rfl
theorem hn_e : h_num (R, C, n, kd, co, nu, dc, wc, num, w, o, ks, se, ln, st) = num := rfl
end Calls3a
section Calls3
variable {X : Nat × (Nat → Int32)} {t L S : Nat} {tp : Nat → Nat} {rf : Nat → Int32} {h h' g : p_T} {img : Bool} {M M' : q_M}
theorem IC.nw (hP : IP t L S tp h g img) (hC : IC M L S tp rf h g img) (eH : ∀ k, k ≠ 0 → (k < 10 ∨ 23 < k) → k < 97 → M' k = M k) (e0 : ∀ j, j ≠ 16 → M' 0 j = M 0 j) (hc' : h_c M' 10 11 18 19 21 h') (rk : c_rk M' (h_F h')) (en : h_num h' = h_num h) (hk : h_k M' h → h_k M' h') : IC M' L S tp rf h' g img := by
  obtain ⟨c1, c2, c3, c4, c5, c6, c7, c8, c9, c10⟩ := hC
  have p6 := hP.2.2.2.2.2.1
  have p7 := hP.2.2.2.2.2.2
  refine ⟨by rw [e0 1 (by decide)]; exact c1, fun j hj => by rw [eH 1 (by decide) (by decide) (by decide)]; exact c2 j hj, fun j a b => by rw [eH 2 (by decide) (by decide) (by decide)]; exact c3 j a b, by rw [e0 14 (by decide)]; exact c4, by rw [e0 15 (by decide)]; exact c5, hc', rk, fun q => hk ((c8 (by rw [e0 15 (by decide), en] at q; exact q)).eq p6 (fun k a b => eH k (by omega) (by omega) (by omega))), by rw [e0 6 (by decide)]; exact c9, fun i => ⟨(c10 i).1.eq (fun k hk => eH k (by omega) (by omega) (by omega)), fun q => ((c10 i).2 (by rw [e0 15 (by decide)] at q; exact q)).eq (p7 i).2.1 (fun k a b => eH k (by omega) (by omega) (by omega))⟩⟩
theorem IP.nw (hP : IP t L S tp h g img) (ht : t < 600) (ho : h_ok h') (en : h_num h' = h_num h) (hk : ∀ M, h_k M h' → h_k M h) : IP (t + 1) L S tp h' g img := by
  obtain ⟨p1, p2, p3, p4, p5, p6, p7⟩ := hP
  exact ⟨p1, p2, by omega, by omega, by rw [en]; exact p5, ho, fun i => ⟨(p7 i).1, (p7 i).2.1, fun q M z => (p7 i).2.2 (by rw [← en]; exact q) M (hk M z)⟩⟩
theorem IR.nw (hR : IR M L tp rf h g img) (eR : ∀ k, (k = 98 ∨ k = 100 ∨ k = 102) → M' k = M k) (e4 : M' 97 4 = M 97 4) (e6 : M' 97 6 = M 97 6) (hr : h_r (M' 99) h') : IR M' L tp rf h' g img := by
  obtain ⟨c1, c2, c3, c4, c5, c6⟩ := hR
  exact ⟨by rw [e6]; exact c1, fun j hj => by rw [eR 102 (by omega)]; exact c2 j hj, fun j a b => by rw [eR 98 (by omega)]; exact c3 j a b, hr, by rw [e4]; exact c5, fun i => by rw [eR 100 (by omega)]; exact c6 i⟩
end Calls3
section Calls4
variable {X : Nat × (Nat → Int32)} {t d : Nat} {M : q_M} {K : Int32 → Int32 → q_M → Prop}
theorem call_set {a : Int32} (hd : 100 ≤ d) (ht : t < 600) (hI : Inv t M) (hK : ∀ r M', Inv (t + 1) M' → K r r M') : q_two X d 48 109 [.ref 0, .int a] [.ref 97, .int a] M K := by
  obtain ⟨L, S, tp, rf, h, g, img, hP, hC, hR⟩ := hI
  obtain ⟨R, C, n, kd, co, nu, dc, wc, num, w, o, ks, se, ln, st⟩ := h
  have ho := hP.2.2.2.2.2.1
  have hw := ho.1
  have hRC := b_RC hw
  have hR6 := hw.1
  have hn3 := hw.2.2.1
  obtain ⟨hq, hsn, htw⟩ := h_c.q ho hC.2.2.2.2.2.1 hC.2.2.2.2.2.2.2.1
  have hb := hq.1
  have hco : ∀ c, c < R * C → co c ≤ 9 := fun c hc => (hw.2.2.2.2.1 c hc).2.1
  have RB : ∀ M2 : q_M, (∀ k, 97 ≤ k → M2 k = M k) → r_b M2 R C n kd co nu ∧ r_st M2 (R * C) n w o ks se ∧ r_tw M2 ln st ∧ IR M2 L tp rf (R, C, n, kd, co, nu, dc, wc, num, w, o, ks, se, ln, st) g img := fun M2 f => ⟨hR.2.2.2.1.b (f 99 (by decide)), (h_r.st ho hR.2.2.2.1 (f 99 (by decide))).1, (h_r.st ho hR.2.2.2.1 (f 99 (by decide))).2, hR.lo f⟩
  have n0 : 0 < R * C → 0 < n ∧ 0 < R := fun q => by
    rcases hw.2.2.2.1 with ⟨z1, z2, z3⟩ | ⟨z1, z2, z3⟩
    · subst z1; omega
    · omega
  have z0 : R * C = 0 → n = 0 ∧ R = 0 := fun q => by
    rcases hw.2.2.2.1 with ⟨z1, z2, z3⟩ | ⟨z1, z2, z3⟩
    · omega
    · have := Nat.mul_le_mul z1 z2; omega
  have h9 := o_en9 hn3
  have zR : ∀ M2 : q_M, r_b M2 R C n kd co nu → (M2 99 0 = 0 ↔ R = 0) := fun M2 b => by rw [b.1, show (0 : Int32) = nI 0 from rfl, q_eq (by omega) (by decide)]
  refine vc48 (by omega) (c_hasSlope hb.2.2.1 (by omega) (fun g0 => ⟨fun _ => ?_, fun q => absurd q (by decide)⟩) (fun g0 => ⟨fun q => absurd rfl q, fun _ => ?_⟩))
  · rw [hb.2.2.2.2.1]
    have hn0 := (n0 g0).1
    refine c_placeOfOrder (by omega) hn3 (fun p p1 p2 p3 => ⟨fun _ => ?_, fun q => absurd (q_0le (by omega)) q⟩) (fun pno => ⟨fun q => absurd q (by decide), fun _ => ?_⟩)
    · subst p3
      have e97 : ∀ k, k ≠ 0 → k ≠ 10 → (q_set (q_set M 10 3 (nI (o_at p))) 0 16 (-1)) k = M k := fun k a b => by rw [q_set_n a, q_set_n b]
      have hpo := o_dig n (by omega) p (by omega) p1 p2
      have hol := o_lt (show p < 9 by omega)
      have h3 : M 10 3 = nI o := hC.2.2.2.2.2.1.2.2.2.1
      obtain ⟨b2, s2, t2, R2⟩ := RB _ (fun k hk => e97 k (by omega) (by omega))
      refine vc109 (by omega) ⟨fun _ => ?_, fun q => absurd ((zR _ b2).mp q) (by have := (n0 g0).2; omega)⟩
      refine r_isOrder b2.2.2.1 hn0 hn3 (fun p' p1' p2' p3' M3 f3 o3 => ⟨fun q => absurd q (by decide), fun _ => ?_⟩) (fun hno => absurd rfl (hno p p1 p2))
      have ep : p' = p := o_inj hn3 p1' p2' p1 p2 ((q_eq (by omega) (by have := o_lt (show p' < 9 by omega); omega)).mp p3').symm
      subst ep
      have e99 : M3 99 = M 99 := by rw [f3 99 (by decide)]; exact e97 99 (by decide) (by decide)
      have R3 := R2.q (M' := M3) ⟨fun k hk => f3 k (by omega), by rw [f3 97 (by decide)], by rw [f3 97 (by decide)]⟩
      have hr3 := R3.2.2.2.1
      refine r_digits (n := n) (o := o) (by rw [f3 99 (by decide)]; exact b2.2.2.1) hn3 ho.2.2.2.1 (fun e he => by rw [f3 99 (by decide)]; exact (s2.2.2.1 e he).1) ?_
      rw [h3]
      have loop : ∀ (j i : Nat) (M4 : q_M), i + j = n → (∀ k, k ≠ 99 → M4 k = M3 k) → (∀ x, (x < 4 ∨ 4 + n ≤ x) → M4 99 x = M3 99 x) → (∀ e, e < i → M4 99 (4 + e) = nI (o_at p' / 10 ^ e % 10)) → q_Ex X d 109 46 [some (.ref 97), none, none, some (.int (nI o)), some (.int (nI i))] [] M4 (q_ri (fun r' M4 => K (nI o) r' M4)) := by
        intro j
        induction j with
        | zero =>
          intro i M4 hi f4 g4 k4
          refine vc109_p46 ⟨fun _ => ?_, fun q => absurd (by rw [g4 2 (by omega), hr3.1.2.2.1, q_le (by omega) (by omega)]; omega) q⟩
          refine hK _ M4 ⟨L, S, tp, rf, (R, C, n, kd, co, nu, dc, wc, num, w, o_at p', ks, se, ln, st), g, img, hP.nw ht ⟨hw, ho.2.1, hol, hpo.1, hpo.2, ho.2.2.2.2.2⟩ (by rw [hn_e, hn_e]) (fun M z => by rw [hk_e] at z ⊢; exact z), hC.nw hP (fun k a b c => by rw [f4 k (by omega), f3 k (by omega), e97 k a (by omega)]) (fun j hj => ?_) ?_ (Or.inl ?_) (by rw [hn_e, hn_e]) (fun z => by rw [hk_e] at z ⊢; exact z), R3.nw (fun k hk => f4 k (by omega)) (by rw [f4 97 (by decide)]) (by rw [f4 97 (by decide)]) ?_⟩
          · rw [f4 0 (by decide), f3 0 (by decide), q_set_ap, if_neg (by omega), q_set_n (by decide)]
          · obtain ⟨d1, d2, d3, d4, d5, d6, d7⟩ := hC.2.2.2.2.2.1
            have bb : b_now M R C n kd co nu dc wc := d1
            have eq : ∀ k, k < 97 → M4 k = (q_set (q_set M 10 3 (nI (o_at p'))) 0 16 (-1)) k := fun k hk => by rw [f4 k (by omega), f3 k (by omega)]
            refine ⟨bb.eq (fun k a b => by rw [eq k (by omega), e97 k (by omega) (by omega)]), ?_, ?_, ?_, ?_, fun j hj => by rw [eq 18 (by decide), e97 18 (by decide) (by decide)]; exact d6 j hj, fun e he => by rw [eq 19 (by decide), eq (21 + e) (by omega), e97 19 (by decide) (by decide), e97 (21 + e) (by omega) (by omega)]; exact d7 e he⟩
            · rw [eq 10 (by decide), q_set_n (by decide), q_set_ap, if_neg (by omega)]; exact d2
            · rw [eq 10 (by decide), q_set_n (by decide), q_set_ap, if_neg (by omega)]; exact d3
            · rw [eq 10 (by decide), q_set_n (by decide), q_set_ap, if_pos ⟨rfl, rfl⟩]
            · rw [eq 10 (by decide), q_set_n (by decide), q_set_ap, if_neg (by omega)]; exact d5
          · rw [f4 0 (by decide), f3 0 (by decide), q_set_ap, if_pos ⟨rfl, rfl⟩]
          · obtain ⟨⟨a1, a2, a3, a4⟩, a5, a6, a7, a8, a9⟩ := hr3
            refine ⟨⟨by rw [g4 0 (by omega)]; exact a1, by rw [g4 1 (by omega)]; exact a2, by rw [g4 2 (by omega)]; exact a3, fun c hc => by rw [g4 _ (by omega), g4 _ (by omega), g4 _ (by omega)]; exact a4 c hc⟩, by rw [g4 3 (by omega)]; exact a5, fun e he => k4 e (by omega), by rw [g4 7 (by omega)]; exact a7, fun j hj => by rw [g4 _ (by omega)]; exact a8 j hj, fun e he => ⟨by rw [g4 _ (by omega)]; exact (a9 e he).1, fun j hj => by rw [g4 _ (by omega)]; exact (a9 e he).2 j hj⟩⟩
        | succ j ih =>
          intro i M4 hi f4 g4 k4
          refine vc109_p46 ⟨fun q => ?_, fun _ => ?_⟩
          · rw [g4 2 (by omega), hr3.1.2.2.1, q_le (by omega) (by omega)] at q; omega
          · rw [show (4 : Int32) + nI i = nI (4 + i) from nI_add 4 i, q_cn (show i < 2 ^ 31 by omega), q_cn (show 4 + i < 2 ^ 31 by omega), nI_1, f4 103 (by decide), o3 i (by omega)]
            refine ⟨q_vi (by omega) (by decide), q_vi (by omega) (by decide), ih (i + 1) _ (by omega) (fun k hk => by rw [q_set_n hk]; exact f4 k hk) (fun x hx => by rw [q_set_ap, if_neg (by omega)]; exact g4 x hx) (fun e he => ?_)⟩
            rw [q_set_ap]
            by_cases q : e = i
            · subst q; rw [if_pos ⟨rfl, rfl⟩]
            · rw [if_neg (by omega)]; exact k4 e (by omega)
      exact loop n 0 M3 (by omega) (fun _ _ => rfl) (fun _ _ => rfl) (fun e he => by omega)
    · refine cx_ref (p := 1) rfl (by decide) (by decide) hP hC (fun M2 f2 C2 => ?_)
      have F2 : ∀ k, 97 ≤ k → M2 k = M k := fun k hk => f2 k (by omega)
      obtain ⟨b2, s2, t2, R2⟩ := RB M2 F2
      refine vc109 (by omega) ⟨fun _ => ?_, fun q => absurd ((zR _ b2).mp q) (by have := (n0 g0).2; omega)⟩
      refine r_isOrder b2.2.2.1 (n0 g0).1 hn3 (fun p p1 p2 p3 => absurd p3 (pno p p1 p2)) (fun _ M3 f3 => ⟨fun _ => ?_, fun q => absurd rfl q⟩)
      exact Inv.refR ht (p := 1) rfl (by decide) (by decide) hP (C2.hi hP (fun k hk => f3 k (by omega))) (R2.q ⟨fun k hk => f3 k (by omega), by rw [f3 97 (by decide)], by rw [f3 97 (by decide)]⟩) (fun M4 I4 => hK _ M4 I4)
  · refine cx_ref (p := 3) rfl (by decide) (by decide) hP hC (fun M2 f2 C2 => ?_)
    have F2 : ∀ k, 97 ≤ k → M2 k = M k := fun k hk => f2 k (by omega)
    obtain ⟨b2, s2, t2, R2⟩ := RB M2 F2
    exact vc109 (by omega) ⟨fun q => absurd ((zR _ b2).mpr (z0 g0).2) q, fun _ => Inv.refR ht (p := 3) rfl (by decide) (by decide) hP C2 R2 (fun M4 I4 => hK _ M4 I4)⟩
theorem call_seen {a : Int32} (hd : 100 ≤ d) (ht : t < 600) (hI : Inv t M) (hK : ∀ r M', Inv (t + 1) M' → K r r M') : q_two X d 60 141 [.ref 0, .int a] [.ref 97, .int a] M K := by
  obtain ⟨L, S, tp, rf, h, g, img, hP, hC, hR⟩ := hI
  obtain ⟨R, C, n, kd, co, nu, dc, wc, num, w, o, ks, se, ln, st⟩ := h
  have ho := hP.2.2.2.2.2.1
  have hw := ho.1
  have hRC := b_RC hw
  have hR6 := hw.1
  have hn3 := hw.2.2.1
  obtain ⟨hq, hsn, htw⟩ := h_c.q ho hC.2.2.2.2.2.1 hC.2.2.2.2.2.2.2.1
  have hb := hq.1
  have hco : ∀ c, c < R * C → co c ≤ 9 := fun c hc => (hw.2.2.2.2.1 c hc).2.1
  have RB : ∀ M2 : q_M, (∀ k, 97 ≤ k → M2 k = M k) → r_b M2 R C n kd co nu ∧ r_st M2 (R * C) n w o ks se ∧ r_tw M2 ln st ∧ IR M2 L tp rf (R, C, n, kd, co, nu, dc, wc, num, w, o, ks, se, ln, st) g img := fun M2 f => ⟨hR.2.2.2.1.b (f 99 (by decide)), (h_r.st ho hR.2.2.2.1 (f 99 (by decide))).1, (h_r.st ho hR.2.2.2.1 (f 99 (by decide))).2, hR.lo f⟩
  have n0 : 0 < R * C → 0 < n ∧ 0 < R := fun q => by
    rcases hw.2.2.2.1 with ⟨z1, z2, z3⟩ | ⟨z1, z2, z3⟩
    · subst z1; omega
    · omega
  have z0 : R * C = 0 → n = 0 ∧ R = 0 := fun q => by
    rcases hw.2.2.2.1 with ⟨z1, z2, z3⟩ | ⟨z1, z2, z3⟩
    · omega
    · have := Nat.mul_le_mul z1 z2; omega
  obtain ⟨q1, q2, q3⟩ := hsn
  refine vc60 (by omega) (c_hasCell hb.2.2.1 (by omega) (fun c hc ec => ⟨fun _ => ?_, fun q => absurd q (by decide)⟩) (fun noc => ⟨fun q => absurd rfl q, fun _ => ?_⟩))
  · subst ec
    rw [q1, show (4 : Int32) = nI 4 from rfl, q_lt (by omega) (by decide), q_cn (by omega), nI_1]
    refine ⟨fun g1 => ⟨q_vi g1 (by decide), ?_⟩, fun g1 => ?_⟩
    · have e97 : ∀ k, k ≠ 18 → k ≠ 10 → (q_set (q_set M 18 ks (nI c)) 10 4 (nI (ks + 1))) k = M k := fun k a b => by rw [q_set_n b, q_set_n a]
      obtain ⟨b2, s2, t2, R2⟩ := RB _ (fun k hk => e97 k (by omega) (by omega))
      have e7 := s2.2.2.2.1
      refine vc141 (by omega) (r_isCell (by omega) b2 (by omega) (fun _ _ _ => ⟨fun _ => ?_, fun q => absurd q (by decide)⟩) (fun q => absurd rfl (q c hc)))
      rw [e7, show (8 : Int32) + nI ks = nI (8 + ks) from nI_add 8 ks, q_cn (by omega), show (q_set (q_set (q_set M 18 ks (nI c)) 10 4 (nI (ks + 1))) 99 (8 + ks) (nI c)) 99 7 = nI ks from by rw [q_set_ap, if_neg (by omega)]; exact e7, nI_1]
      refine ⟨fun _ => ⟨q_vi (by omega) (by decide), ?_⟩, fun q => absurd ((q_eq (b := 4) (by omega) (by decide)).mp q) (by omega)⟩
      refine hK _ _ ⟨L, S, tp, rf, (R, C, n, kd, co, nu, dc, wc, num, w, o, ks + 1, p_up se ks c, ln, st), g, img, hP.nw ht ⟨hw, ho.2.1, ho.2.2.1, ho.2.2.2.1, ho.2.2.2.2.1, by omega, fun j hj => ?_, ho.2.2.2.2.2.2.2⟩ (by rw [hn_e, hn_e]) (fun M z => by rw [hk_e] at z ⊢; exact z), hC.nw hP (fun k a b c => by rw [q_set_n (by omega), q_set_n (by omega)]; exact e97 k (by omega) (by omega)) (fun j hj => by rw [q_set_n (by decide), q_set_n (by decide), e97 0 (by decide) (by decide)]) ?_ ?_ (by rw [hn_e, hn_e]) (fun z => by rw [hk_e] at z ⊢; exact z), R2.nw (fun k hk => by rw [q_set_n (by omega), q_set_n (by omega)]) (by rw [q_set_n (by decide), q_set_n (by decide)]) (by rw [q_set_n (by decide), q_set_n (by decide)]) ?_⟩
      · by_cases e : j = ks
        · subst e; rw [p_up_s]; exact hc
        · rw [p_up_n e]; exact (q3 j (by omega)).2
      · obtain ⟨d1, d2, d3, d4, d5, d6, d7⟩ := hC.2.2.2.2.2.1
        have bb : b_now M R C n kd co nu dc wc := d1
        refine ⟨bb.eq (fun k a b => by rw [q_set_n (by omega), q_set_n (by omega)]; exact e97 k (by omega) (by omega)), ?_, ?_, ?_, ?_, fun j hj => ?_, fun e he => ?_⟩
        · rw [q_set_n (by decide), q_set_n (by decide), q_set_ap, if_neg (by omega), q_set_n (by decide)]; exact d2
        · rw [q_set_n (by decide), q_set_n (by decide), q_set_ap, if_neg (by omega), q_set_n (by decide)]; exact d3
        · rw [q_set_n (by decide), q_set_n (by decide), q_set_ap, if_neg (by omega), q_set_n (by decide)]; exact d4
        · rw [q_set_n (by decide), q_set_n (by decide), q_set_ap, if_pos ⟨rfl, rfl⟩]
        · rw [q_set_n (by decide), q_set_n (by decide), q_set_n (by decide), q_set_ap]
          by_cases e : j = ks
          · subst e; rw [if_pos ⟨rfl, rfl⟩, p_up_s]
          · rw [if_neg (fun y => e y.2), p_up_n e]; exact d6 j (by omega)
        · rw [q_set_n (by decide), q_set_n (by decide), e97 19 (by decide) (by decide), q_set_n (show 21 + e ≠ 99 by omega), q_set_n (show 21 + e ≠ 99 by omega), e97 (21 + e) (by omega) (by omega)]
          exact d7 e he
      · rw [hF_e]; exact (hF_e ▸ hC.2.2.2.2.2.2.1 : c_rk M (g_law (g_W R C kd dc) nu w o n)).eq (by rw [q_set_n (by decide), q_set_n (by decide), e97 0 (by decide) (by decide)]) (by rw [q_set_n (by decide), q_set_n (by decide), e97 89 (by decide) (by decide)])
      · obtain ⟨⟨a1, a2, a3, a4⟩, a5, a6, a7, a8, a9⟩ := R2.2.2.2.1
        generalize q_set (q_set M 18 ks (nI c)) 10 4 (nI (ks + 1)) = M2 at *
        have ne : ∀ j, j ≠ 7 → j ≠ 8 + ks → (q_set (q_set M2 99 (8 + ks) (nI c)) 99 7 (nI (ks + 1))) 99 j = M2 99 j := fun j x y => by rw [q_set_ap, if_neg (by omega), q_set_ap, if_neg (by omega)]
        refine ⟨⟨by rw [ne 0 (by decide) (by omega)]; exact a1, by rw [ne 1 (by decide) (by omega)]; exact a2, by rw [ne 2 (by decide) (by omega)]; exact a3, fun c hc => by rw [ne _ (by omega) (by omega), ne _ (by omega) (by omega), ne _ (by omega) (by omega)]; exact a4 c hc⟩, by rw [ne 3 (by decide) (by omega)]; exact a5, fun e he => by rw [ne _ (by omega) (by omega)]; exact a6 e he, by rw [q_set_ap, if_pos ⟨rfl, rfl⟩], fun j hj => ?_, fun e he => ⟨by rw [ne _ (by omega) (by omega)]; exact (a9 e he).1, fun j hj => by rw [ne _ (by omega) (by omega)]; exact (a9 e he).2 j hj⟩⟩
        by_cases e : j = ks
        · subst e; rw [p_up_s, q_set_ap, if_neg (by omega), q_set_ap, if_pos ⟨rfl, rfl⟩]
        · rw [p_up_n e, ne _ (by omega) (by omega)]; exact a8 j (by omega)
    · refine cx_ref (p := 6) rfl (by decide) (by decide) hP hC (fun M2 f2 C2 => ?_)
      have F2 : ∀ k, 97 ≤ k → M2 k = M k := fun k hk => f2 k (by omega)
      obtain ⟨b2, s2, t2, R2⟩ := RB M2 F2
      refine vc141 (by omega) (r_isCell (by omega) b2 (by omega) (fun _ _ _ => ⟨fun _ => ?_, fun q => absurd q (by decide)⟩) (fun q => absurd rfl (q c hc)))
      rw [s2.2.2.2.1]
      exact ⟨fun q => absurd (show nI ks = 4 by rw [show ks = 4 by omega]; rfl) q, fun _ => Inv.refR ht (p := 6) rfl (by decide) (by decide) hP C2 R2 (fun M4 I4 => hK _ M4 I4)⟩
  · refine cx_ref (p := 1) rfl (by decide) (by decide) hP hC (fun M2 f2 C2 => ?_)
    have F2 : ∀ k, 97 ≤ k → M2 k = M k := fun k hk => f2 k (by omega)
    obtain ⟨b2, s2, t2, R2⟩ := RB M2 F2
    exact vc141 (by omega) (r_isCell (by omega) b2 (by omega) (fun j hj e => absurd e (noc j hj)) (fun _ => ⟨fun q => absurd rfl q, fun _ => Inv.refR ht (p := 1) rfl (by decide) (by decide) hP C2 R2 (fun M4 I4 => hK _ M4 I4)⟩))
theorem st_ok {R C n num w o ks i v : Nat} {kd co nu dc wc se ln : Nat → Nat} {st : Nat → Nat → Nat} (ho : h_ok (R, C, n, kd, co, nu, dc, wc, num, w, o, ks, se, ln, st)) (hl : ln i < 10) (hv : v < 2) : h_ok (R, C, n, kd, co, nu, dc, wc, num, w, o, ks, se, p_up ln i (ln i + 1), p_up st i (p_up (st i) (ln i) v)) := by
  refine ⟨ho.1, ho.2.1, ho.2.2.1, ho.2.2.2.1, ho.2.2.2.2.1, ho.2.2.2.2.2.1, ho.2.2.2.2.2.2.1, fun e he => ?_⟩
  by_cases q : e = i
  · subst q
    rw [p_up_s, p_up_s]
    refine ⟨by omega, fun j hj => ?_⟩
    by_cases q2 : j = ln e
    · rw [q2, p_up_s]; exact hv
    · rw [p_up_n q2]; exact (ho.2.2.2.2.2.2.2 e he).2 j (by omega)
  · rw [p_up_n q, p_up_n q]
    exact ho.2.2.2.2.2.2.2 e he
theorem st_c {R C n num w o ks i v : Nat} {kd co nu dc wc se ln : Nat → Nat} {st : Nat → Nat → Nat} {M' : q_M} (hi : i < 3) (hc : h_c M 10 11 18 19 21 (R, C, n, kd, co, nu, dc, wc, num, w, o, ks, se, ln, st)) (e97 : ∀ k, k < 97 → k ≠ 21 + i → k ≠ 19 → M' k = M k) (e19 : M' 19 = upd (M 19) i (nI (ln i + 1))) (e21 : M' (21 + i) = upd (M (21 + i)) (ln i) (nI v)) : h_c M' 10 11 18 19 21 (R, C, n, kd, co, nu, dc, wc, num, w, o, ks, se, p_up ln i (ln i + 1), p_up st i (p_up (st i) (ln i) v)) := by
  obtain ⟨d1, d2, d3, d4, d5, d6, d7⟩ := hc
  have bb : b_now M R C n kd co nu dc wc := d1
  have e10 : M' 10 = M 10 := e97 10 (by decide) (by omega) (by decide)
  refine ⟨bb.eq (fun k a b => e97 k (by omega) (by omega) (by omega)), by rw [e10]; exact d2, by rw [e10]; exact d3, by rw [e10]; exact d4, by rw [e10]; exact d5, fun j hj => by rw [e97 18 (by decide) (by omega) (by decide)]; exact d6 j hj, fun e he => ?_⟩
  by_cases q : e = i
  · subst q
    rw [p_up_s, p_up_s, e19, e21]
    refine ⟨if_pos rfl, fun j hj => ?_⟩
    rw [q_upd_ap]
    by_cases q2 : j = ln e
    · rw [q2, p_up_s, if_pos rfl]
    · rw [p_up_n q2, if_neg q2]; exact (d7 e he).2 j (by omega)
  · rw [p_up_n q, p_up_n q, e19, e97 (21 + e) (by omega) (by omega) (by omega), q_upd_ap, if_neg q]
    exact d7 e he
theorem st_r {R C n num w o ks i v : Nat} {kd co nu dc wc se ln : Nat → Nat} {st : Nat → Nat → Nat} {s s' : Nat → Int32} (hi : i < 3) (hks : ks ≤ 4) (hn3 : n ≤ 3) (hle : ∀ e, e < 3 → ln e ≤ 10) (hl : ln i < 10) (hr : h_r s (R, C, n, kd, co, nu, dc, wc, num, w, o, ks, se, ln, st)) (es : ∀ j, j ≠ 12 + i → j ≠ 15 + (10 * i + ln i) → s' j = s j) (e12 : s' (12 + i) = nI (ln i + 1)) (e15 : s' (15 + (10 * i + ln i)) = nI v) : h_r s' (R, C, n, kd, co, nu, dc, wc, num, w, o, ks, se, p_up ln i (ln i + 1), p_up st i (p_up (st i) (ln i) v)) := by
  obtain ⟨⟨a1, a2, a3, a4⟩, a5, a6, a7, a8, a9⟩ := hr
  refine ⟨⟨by rw [es 0 (by omega) (by omega)]; exact a1, by rw [es 1 (by omega) (by omega)]; exact a2, by rw [es 2 (by omega) (by omega)]; exact a3, fun c hc => by rw [es _ (by omega) (by omega), es _ (by omega) (by omega), es _ (by omega) (by omega)]; exact a4 c hc⟩, by rw [es 3 (by omega) (by omega)]; exact a5, fun e he => by rw [es _ (by omega) (by omega)]; exact a6 e he, by rw [es 7 (by omega) (by omega)]; exact a7, fun j hj => by rw [es _ (by omega) (by omega)]; exact a8 j hj, fun e he => ?_⟩
  have le := hle e he
  by_cases q : e = i
  · subst q
    rw [p_up_s, p_up_s]
    refine ⟨e12, fun j hj => ?_⟩
    by_cases q2 : j = ln e
    · subst q2
      rw [p_up_s, Nat.add_assoc]; exact e15
    · rw [p_up_n q2, es _ (by omega) (by omega)]; exact (a9 e he).2 j (by omega)
  · rw [p_up_n q, p_up_n q]
    refine ⟨by rw [es _ (by omega) (by omega)]; exact (a9 e he).1, fun j hj => by rw [es _ (by omega) (by omega)]; exact (a9 e he).2 j hj⟩
theorem step_good {i v : Nat} (hd : 100 ≤ d) (ht : t < 600) (hI : Inv t M) (hK : ∀ r M', Inv (t + 1) M' → K r r M') (hi0 : ∀ nn, M 11 4 = nI nn → nn < 4 → i < nn) (hv : v < 2) : (vp_in (nI i) 3 ∧ ((((M 19 (Int32.toNatClampNeg (nI i))) < 10) → (vp_in (nI i) 3 ∧ (vp_in (M 19 (Int32.toNatClampNeg (nI i))) 10 ∧ (vp_in (nI i) 3 ∧ (q_Ci X d 148 [.ref 97, .int (nI i), .int (nI v)] (q_set (q_set M (21 + Int32.toNatClampNeg (nI i)) (Int32.toNatClampNeg (M 19 (Int32.toNatClampNeg (nI i)))) (nI v)) 19 (Int32.toNatClampNeg (nI i)) ((M 19 (Int32.toNatClampNeg (nI i))) + 1)) (fun r' M4 => K ((M 19 (Int32.toNatClampNeg (nI i))) + 1) r' M4)))))) ∧ ((¬ (M 19 (Int32.toNatClampNeg (nI i))) < 10) → (q_Ci X (d - 1) 72 [.ref 0, .int (-6)] M (fun r8 M7 => q_Ci X d 148 [.ref 97, .int (nI i), .int (nI v)] M7 (fun r' M4 => K r8 r' M4)))))) := by
  obtain ⟨L, S, tp, rf, h, g, img, hP, hC, hR⟩ := hI
  obtain ⟨R, C, n, kd, co, nu, dc, wc, num, w, o, ks, se, ln, st⟩ := h
  have ho := hP.2.2.2.2.2.1
  have hw := ho.1
  have hRC := b_RC hw
  have hR6 := hw.1
  have hn3 := hw.2.2.1
  obtain ⟨hq, hsn, htw⟩ := h_c.q ho hC.2.2.2.2.2.1 hC.2.2.2.2.2.2.2.1
  have hb := hq.1
  have hco : ∀ c, c < R * C → co c ≤ 9 := fun c hc => (hw.2.2.2.2.1 c hc).2.1
  have RB : ∀ M2 : q_M, (∀ k, 97 ≤ k → M2 k = M k) → r_b M2 R C n kd co nu ∧ r_st M2 (R * C) n w o ks se ∧ r_tw M2 ln st ∧ IR M2 L tp rf (R, C, n, kd, co, nu, dc, wc, num, w, o, ks, se, ln, st) g img := fun M2 f => ⟨hR.2.2.2.1.b (f 99 (by decide)), (h_r.st ho hR.2.2.2.1 (f 99 (by decide))).1, (h_r.st ho hR.2.2.2.1 (f 99 (by decide))).2, hR.lo f⟩
  have n0 : 0 < R * C → 0 < n ∧ 0 < R := fun q => by
    rcases hw.2.2.2.1 with ⟨z1, z2, z3⟩ | ⟨z1, z2, z3⟩
    · subst z1; omega
    · omega
  have z0 : R * C = 0 → n = 0 ∧ R = 0 := fun q => by
    rcases hw.2.2.2.1 with ⟨z1, z2, z3⟩ | ⟨z1, z2, z3⟩
    · omega
    · have := Nat.mul_le_mul z1 z2; omega
  have hi : i < n := hi0 n hb.2.2.2.2.1 (by omega)
  have hks := hsn.2.1
  obtain ⟨w1, w2, w3⟩ := htw i (by omega)
  rw [q_cn (show i < 2 ^ 31 by omega), w1, show (10 : Int32) = nI 10 from rfl, q_lt (by omega) (by decide), q_cn (show ln i < 2 ^ 31 by omega), nI_1]
  have v3 : vp_in (nI i) 3 := q_vi (by omega) (by decide)
  refine ⟨v3, fun g1 => ⟨v3, q_vi g1 (by decide), v3, ?_⟩, fun g1 => ?_⟩
  · have e97 : ∀ k, k ≠ 21 + i → k ≠ 19 → (q_set (q_set M (21 + i) (ln i) (nI v)) 19 i (nI (ln i + 1))) k = M k := fun k x y => by rw [q_set_n y, q_set_n x]
    obtain ⟨b2, s2, t2, R2⟩ := RB _ (fun k hk => e97 k (by omega) (by omega))
    obtain ⟨x1, x2, x3⟩ := t2 i (by omega)
    refine vc148 (by omega) (r_isDoor (by omega) b2.2.2.1 (by omega) (fun _ _ _ => ⟨fun _ => ?_, fun q => absurd q (by decide)⟩) (fun q => absurd rfl (q i hi)))
    refine r_isIn (fun _ _ => ⟨fun _ => ?_, fun q => absurd q (by decide)⟩) (fun q => ?_)
    · rw [show (12 : Int32) + nI i = nI (12 + i) from nI_add 12 i, q_cn (show 12 + i < 2 ^ 31 by omega), x1, show (10 : Int32) * nI i = nI (10 * i) from pk_mul 10 i, show (15 : Int32) + nI (10 * i) = nI (15 + 10 * i) from nI_add 15 _, nI_add, show 15 + 10 * i + ln i = 15 + (10 * i + ln i) from Nat.add_assoc _ _ _, q_cn (show 15 + (10 * i + ln i) < 2 ^ 31 by omega)]
      generalize hM2 : q_set (q_set M (21 + i) (ln i) (nI v)) 19 i (nI (ln i + 1)) = M2 at *
      have e12 : (q_set M2 99 (15 + (10 * i + ln i)) (nI v)) 99 (12 + i) = nI (ln i) := by rw [q_set_ap, if_neg (by omega)]; exact x1
      have v12 : vp_in (nI (12 + i)) 135 := q_vi (by omega) (by decide)
      rw [e12, nI_1]
      refine ⟨v12, fun _ => ⟨v12, q_vi (by omega) (by decide), v12, v12, v12, ?_⟩, fun q => absurd ((q_eq (b := 10) (by omega) (by decide)).mp q) (by omega)⟩
      rw [show (q_set (q_set M2 99 (15 + (10 * i + ln i)) (nI v)) 99 (12 + i) (nI (ln i + 1))) 99 (12 + i) = nI (ln i + 1) from by rw [q_set_ap, if_pos ⟨rfl, rfl⟩]]
      have hl10 : ln i < 10 := g1
      refine hK _ _ ⟨L, S, tp, rf, (R, C, n, kd, co, nu, dc, wc, num, w, o, ks, se, p_up ln i (ln i + 1), p_up st i (p_up (st i) (ln i) v)), g, img, hP.nw ht (st_ok ho hl10 hv) (by rw [hn_e, hn_e]) (fun M z => by rw [hk_e] at z ⊢; exact z), hC.nw hP (fun k a b c => by rw [q_set_n (by omega), q_set_n (by omega)]; exact e97 k (by omega) (by omega)) (fun j hj => by rw [q_set_n (by decide), q_set_n (by decide), e97 0 (by omega) (by decide)]) (st_c (by omega) hC.2.2.2.2.2.1 (fun k a b c => by rw [q_set_n (by omega), q_set_n (by omega)]; exact e97 k b c) ?_ ?_) ?_ (by rw [hn_e, hn_e]) (fun z => by rw [hk_e] at z ⊢; exact z), R2.nw (fun k hk => by rw [q_set_n (by omega), q_set_n (by omega)]) (by rw [q_set_n (by decide), q_set_n (by decide)]) (by rw [q_set_n (by decide), q_set_n (by decide)]) (st_r (by omega) hks hn3 (fun e he => (htw e he).2.1) hl10 R2.2.2.2.1 (fun j x y => ?_) ?_ ?_)⟩
      · rw [q_set_n (by decide), q_set_n (by decide), ← hM2, q_set_s, q_set_n (by omega)]
      · rw [q_set_n (show 21 + i ≠ 99 by omega), q_set_n (show 21 + i ≠ 99 by omega), ← hM2, q_set_n (by omega), q_set_s]
      · rw [hF_e]; exact (hF_e ▸ hC.2.2.2.2.2.2.1 : c_rk M (g_law (g_W R C kd dc) nu w o n)).eq (by rw [q_set_n (by decide), q_set_n (by decide), e97 0 (by omega) (by decide)]) (by rw [q_set_n (by decide), q_set_n (by decide), e97 89 (by omega) (by decide)])
      · rw [q_set_ap, if_neg (by omega), q_set_ap, if_neg (by omega)]
      · rw [q_set_ap, if_pos ⟨rfl, rfl⟩]
      · rw [q_set_ap, if_neg (by omega), q_set_ap, if_pos ⟨rfl, rfl⟩]
    · rcases q with z | z
      · exact absurd z (q_nlt0 (by omega))
      · exact absurd ((q_lt (b := 2) (by omega) (by decide)).mpr hv) z
  · refine cx_ref (p := 6) rfl (by decide) (by decide) hP hC (fun M2 f2 C2 => ?_)
    have F2 : ∀ k, 97 ≤ k → M2 k = M k := fun k hk => f2 k (by omega)
    obtain ⟨b2, s2, t2, R2⟩ := RB M2 F2
    obtain ⟨x1, x2, x3⟩ := t2 i (by omega)
    refine vc148 (by omega) (r_isDoor (by omega) b2.2.2.1 (by omega) (fun _ _ _ => ⟨fun _ => ?_, fun q => absurd q (by decide)⟩) (fun q => absurd rfl (q i hi)))
    refine r_isIn (fun _ _ => ⟨fun _ => ?_, fun q => absurd q (by decide)⟩) (fun q => ?_)
    · rw [show (12 : Int32) + nI i = nI (12 + i) from nI_add 12 i, q_cn (show 12 + i < 2 ^ 31 by omega), x1]
      exact ⟨q_vi (by omega) (by decide), fun q => absurd (show nI (ln i) = 10 by rw [show ln i = 10 by omega]; rfl) q, fun _ => Inv.refR ht (p := 6) rfl (by decide) (by decide) hP C2 R2 (fun M4 I4 => hK _ M4 I4)⟩
    · rcases q with z | z
      · exact absurd z (q_nlt0 (by omega))
      · exact absurd ((q_lt (b := 2) (by omega) (by decide)).mpr hv) z
theorem call_step {a b : Int32} (hd : 100 ≤ d) (ht : t < 600) (hI : Inv t M) (hK : ∀ r M', Inv (t + 1) M' → K r r M') : q_two X d 66 148 [.ref 0, .int a, .int b] [.ref 97, .int a, .int b] M K := by
  obtain ⟨L, S, tp, rf, h, g, img, hP, hC, hR⟩ := hI
  obtain ⟨R, C, n, kd, co, nu, dc, wc, num, w, o, ks, se, ln, st⟩ := h
  have ho := hP.2.2.2.2.2.1
  have hw := ho.1
  have hRC := b_RC hw
  have hR6 := hw.1
  have hn3 := hw.2.2.1
  obtain ⟨hq, hsn, htw⟩ := h_c.q ho hC.2.2.2.2.2.1 hC.2.2.2.2.2.2.2.1
  have hb := hq.1
  have hco : ∀ c, c < R * C → co c ≤ 9 := fun c hc => (hw.2.2.2.2.1 c hc).2.1
  have RB : ∀ M2 : q_M, (∀ k, 97 ≤ k → M2 k = M k) → r_b M2 R C n kd co nu ∧ r_st M2 (R * C) n w o ks se ∧ r_tw M2 ln st ∧ IR M2 L tp rf (R, C, n, kd, co, nu, dc, wc, num, w, o, ks, se, ln, st) g img := fun M2 f => ⟨hR.2.2.2.1.b (f 99 (by decide)), (h_r.st ho hR.2.2.2.1 (f 99 (by decide))).1, (h_r.st ho hR.2.2.2.1 (f 99 (by decide))).2, hR.lo f⟩
  have n0 : 0 < R * C → 0 < n ∧ 0 < R := fun q => by
    rcases hw.2.2.2.1 with ⟨z1, z2, z3⟩ | ⟨z1, z2, z3⟩
    · subst z1; omega
    · omega
  have z0 : R * C = 0 → n = 0 ∧ R = 0 := fun q => by
    rcases hw.2.2.2.1 with ⟨z1, z2, z3⟩ | ⟨z1, z2, z3⟩
    · omega
    · have := Nat.mul_le_mul z1 z2; omega
  have bad : ∀ (i : Nat), i < n → a = nI i → (¬ b = 0 ∧ ¬ b = 1) → q_Ci X (d - 1) 72 [.ref 0, .int (-2)] M (fun r15 M14 => q_Ci X d 148 [.ref 97, .int a, .int b] M14 (fun r' M4 => K r15 r' M4)) := by
    intro i hi ei hno
    subst ei
    refine cx_ref (p := 2) rfl (by decide) (by decide) hP hC (fun M2 f2 C2 => ?_)
    have F2 : ∀ k, 97 ≤ k → M2 k = M k := fun k hk => f2 k (by omega)
    obtain ⟨b2, s2, t2, R2⟩ := RB M2 F2
    exact vc148 (by omega) (r_isDoor (by omega) b2.2.2.1 (by omega) (fun _ _ _ => ⟨fun _ => (r_isIn (fun q1 q2 => by obtain ⟨v, hv, ev⟩ := q_in_nn (n := 2) rfl (by decide) q1 q2; rcases (show v = 0 ∨ v = 1 by omega) with z | z; (subst z; exact absurd ev hno.1); (subst z; exact absurd ev hno.2)) (fun _ => ⟨fun q => absurd rfl q, fun _ => Inv.refR ht (p := 2) rfl (by decide) (by decide) hP C2 R2 (fun M4 I4 => hK _ M4 I4)⟩)), fun q => absurd q (by decide)⟩) (fun q => absurd rfl (q i hi)))

  refine vc66 (by omega) (c_hasDoor hb.2.2.2.2.1 (by omega) (fun i hi ei => ⟨fun _ => ?_, fun q => absurd q (by decide)⟩) (fun noi => ⟨fun q => absurd rfl q, fun _ => ?_⟩))
  · have hI2 : Inv t M := ⟨L, S, tp, rf, (R, C, n, kd, co, nu, dc, wc, num, w, o, ks, se, ln, st), g, img, hP, hC, hR⟩
    have hi0 : ∀ nn, M 11 4 = nI nn → nn < 4 → i < nn := fun nn e4 l4 => by
      rw [hb.2.2.2.2.1] at e4
      have := (q_eq (by omega) (by omega)).mp e4
      omega
    refine ⟨fun e => ?_, fun e => ⟨fun e1 => ?_, fun e1 => bad i hi ei ⟨e, e1⟩⟩⟩
    · have e' : b = nI 0 := e
      rw [e', ei]
      exact step_good (v := 0) hd ht hI2 hK hi0 (by decide)
    · have e' : b = nI 1 := e1
      rw [e', ei]
      exact step_good (v := 1) hd ht hI2 hK hi0 (by decide)
  · refine cx_ref (p := 1) rfl (by decide) (by decide) hP hC (fun M2 f2 C2 => ?_)
    have F2 : ∀ k, 97 ≤ k → M2 k = M k := fun k hk => f2 k (by omega)
    obtain ⟨b2, s2, t2, R2⟩ := RB M2 F2
    exact vc148 (by omega) (r_isDoor (by omega) b2.2.2.1 (by omega) (fun j hj e => absurd e (noi j hj)) (fun _ => ⟨fun q => absurd rfl q, fun _ => Inv.refR ht (p := 1) rfl (by decide) (by decide) hP C2 R2 (fun M4 I4 => hK _ M4 I4)⟩))
theorem call_clear (hd : 100 ≤ d) (ht : t < 600) (hI : Inv t M) (hK : ∀ r M', Inv (t + 1) M' → K r r M') : q_two X d 68 151 [.ref 0] [.ref 97] M K := by
  obtain ⟨L, S, tp, rf, h, g, img, hP, hC, hR⟩ := hI
  obtain ⟨R, C, n, kd, co, nu, dc, wc, num, w, o, ks, se, ln, st⟩ := h
  have ho := hP.2.2.2.2.2.1
  have hw := ho.1
  have hRC := b_RC hw
  have hR6 := hw.1
  have hn3 := hw.2.2.1
  obtain ⟨hq, hsn, htw⟩ := h_c.q ho hC.2.2.2.2.2.1 hC.2.2.2.2.2.2.2.1
  have hb := hq.1
  have hco : ∀ c, c < R * C → co c ≤ 9 := fun c hc => (hw.2.2.2.2.1 c hc).2.1
  have RB : ∀ M2 : q_M, (∀ k, 97 ≤ k → M2 k = M k) → r_b M2 R C n kd co nu ∧ r_st M2 (R * C) n w o ks se ∧ r_tw M2 ln st ∧ IR M2 L tp rf (R, C, n, kd, co, nu, dc, wc, num, w, o, ks, se, ln, st) g img := fun M2 f => ⟨hR.2.2.2.1.b (f 99 (by decide)), (h_r.st ho hR.2.2.2.1 (f 99 (by decide))).1, (h_r.st ho hR.2.2.2.1 (f 99 (by decide))).2, hR.lo f⟩
  have n0 : 0 < R * C → 0 < n ∧ 0 < R := fun q => by
    rcases hw.2.2.2.1 with ⟨z1, z2, z3⟩ | ⟨z1, z2, z3⟩
    · subst z1; omega
    · omega
  have z0 : R * C = 0 → n = 0 ∧ R = 0 := fun q => by
    rcases hw.2.2.2.1 with ⟨z1, z2, z3⟩ | ⟨z1, z2, z3⟩
    · omega
    · have := Nat.mul_le_mul z1 z2; omega
  refine vc68 (by omega) (c_forget (ln := ln) (fun e he => (htw e he).1) (fun M2 f2 g2 z2 w2 => ?_))
  obtain ⟨b2, s2, t2, R2⟩ := RB M2 (fun k hk => f2 k (by omega) (by omega))
  have C2 : IC M2 L S tp rf (R, C, n, kd, co, nu, dc, wc, num, w, o, 0, se, fun _ => 0, st) g img := by
    refine hC.nw hP (fun k a b c => f2 k (by omega) (by omega)) (fun j hj => by rw [f2 0 (by decide) (by decide)]) ?_ (by rw [hF_e]; exact (hF_e ▸ hC.2.2.2.2.2.2.1 : c_rk M (g_law (g_W R C kd dc) nu w o n)).eq (by rw [f2 0 (by decide) (by decide)]) (f2 89 (by decide) (by decide))) (by rw [hn_e, hn_e]) (fun z => by rw [hk_e] at z ⊢; exact z)
    obtain ⟨d1, d2, d3, d4, d5, d6, d7⟩ := hC.2.2.2.2.2.1
    have bb : b_now M R C n kd co nu dc wc := d1
    exact ⟨bb.eq (fun k a b => f2 k (by omega) (by omega)), by rw [g2 1 (by decide)]; exact d2, by rw [g2 2 (by decide)]; exact d3, by rw [g2 3 (by decide)]; exact d4, z2, (fun j hj => absurd hj (Nat.not_lt_zero j)), fun e he => ⟨w2 e he, fun j hj => absurd hj (Nat.not_lt_zero j)⟩⟩
  have h0 := (t2 0 (by decide)).1
  have h1 := (t2 1 (by decide)).1
  have h2 := (t2 2 (by decide)).1
  refine vc151 (vc151_p4 (a1 := 0) (a2 := nI 0) ⟨fun q => absurd q (by decide), fun _ => ?_⟩)
  rw [show (12 : Int32) + nI 0 = nI 12 from nI_add 12 0, q_cn (by decide), show M2 99 12 = nI (ln 0) from h0, nI_1]
  refine ⟨q_vi (by decide) (by decide), q_vi (by decide) (by decide), vc151_p4 ⟨fun q => absurd q (by decide), fun _ => ?_⟩⟩
  rw [show (12 : Int32) + nI (0 + 1) = nI 13 from nI_add 12 1, q_cn (by decide), q_set_ap, if_neg (by decide), show M2 99 13 = nI (ln 1) from h1, nI_1]
  refine ⟨q_vi (by decide) (by decide), q_vi (by decide) (by decide), vc151_p4 ⟨fun q => absurd q (by decide), fun _ => ?_⟩⟩
  rw [show (12 : Int32) + nI (0 + 1 + 1) = nI 14 from nI_add 12 2, q_cn (by decide), q_set_ap, if_neg (by decide), q_set_ap, if_neg (by decide), show M2 99 14 = nI (ln 2) from h2, nI_1]
  refine ⟨q_vi (by decide) (by decide), q_vi (by decide) (by decide), vc151_p4 ⟨fun _ => ?_, fun q => absurd (show (3 : Int32) ≤ nI (0 + 1 + 1 + 1) by decide) q⟩⟩
  rw [show (0 : Int32) + nI (ln 0) = nI (0 + ln 0) from nI_add 0 _, nI_add, nI_add, Nat.zero_add]
  refine hK _ _ ⟨L, S, tp, rf, (R, C, n, kd, co, nu, dc, wc, num, w, o, 0, se, fun _ => 0, st), g, img, hP.nw ht ⟨hw, ho.2.1, ho.2.2.1, ho.2.2.2.1, ho.2.2.2.2.1, by decide, (fun j hj => absurd hj (Nat.not_lt_zero j)), fun e he => ⟨Nat.zero_le 10, fun j hj => absurd hj (Nat.not_lt_zero j)⟩⟩ (by rw [hn_e, hn_e]) (fun M z => by rw [hk_e] at z ⊢; exact z), C2.hi (hP.nw ht ⟨hw, ho.2.1, ho.2.2.1, ho.2.2.2.1, ho.2.2.2.2.1, by decide, (fun j hj => absurd hj (Nat.not_lt_zero j)), fun e he => ⟨Nat.zero_le 10, fun j hj => absurd hj (Nat.not_lt_zero j)⟩⟩ (by rw [hn_e, hn_e]) (fun M z => by rw [hk_e] at z ⊢; exact z)) (fun k hk => by rw [q_set_n (by omega), q_set_n (by omega), q_set_n (by omega), q_set_n (by omega)]), R2.nw (fun k hk => by rw [q_set_n (by omega), q_set_n (by omega), q_set_n (by omega), q_set_n (by omega)]) (by rw [q_set_n (by decide), q_set_n (by decide), q_set_n (by decide), q_set_n (by decide)]) (by rw [q_set_n (by decide), q_set_n (by decide), q_set_n (by decide), q_set_n (by decide)]) ?_⟩
  obtain ⟨⟨a1, a2, a3, a4⟩, a5, a6, a7, a8, a9⟩ := R2.2.2.2.1
  have ne : ∀ j, j ≠ 7 → j ≠ 12 → j ≠ 13 → j ≠ 14 → (q_set (q_set (q_set (q_set M2 99 12 0) 99 13 0) 99 14 0) 99 7 0) 99 j = M2 99 j := fun j x y z u => by rw [q_set_ap, if_neg (by omega), q_set_ap, if_neg (by omega), q_set_ap, if_neg (by omega), q_set_ap, if_neg (by omega)]
  refine ⟨⟨by rw [ne 0 (by omega) (by omega) (by omega) (by omega)]; exact a1, by rw [ne 1 (by omega) (by omega) (by omega) (by omega)]; exact a2, by rw [ne 2 (by omega) (by omega) (by omega) (by omega)]; exact a3, fun c hc => by rw [ne _ (by omega) (by omega) (by omega) (by omega), ne _ (by omega) (by omega) (by omega) (by omega), ne _ (by omega) (by omega) (by omega) (by omega)]; exact a4 c hc⟩, by rw [ne 3 (by omega) (by omega) (by omega) (by omega)]; exact a5, fun e he => by rw [ne _ (by omega) (by omega) (by omega) (by omega)]; exact a6 e he, by rw [q_set_ap, if_pos ⟨rfl, rfl⟩]; rfl, (fun j hj => absurd hj (Nat.not_lt_zero j)), fun e he => ⟨?_, fun j hj => absurd hj (Nat.not_lt_zero j)⟩⟩
  rcases (show e = 0 ∨ e = 1 ∨ e = 2 by omega) with z | z | z
  · subst z; simp [q_set_ap, nI_0]
  · subst z; simp [q_set_ap, nI_0]
  · subst z; simp [q_set_ap, nI_0]
end Calls4
