/-! the calls, one by one -/
section Calls1
variable {X : Nat × (Nat → Int32)} {t d : Nat} {M : q_M} {K : Int32 → Int32 → q_M → Prop}
theorem call_letter {a : Int32} (hd : 80 ≤ d) (ht : t < 600) (hI : Inv t M) (hK : ∀ r M', Inv (t + 1) M' → K r r M') : q_two X d 44 101 [.ref 0, .int a] [.ref 97, .int a] M K := by
  obtain ⟨L, S, tp, rf, h, g, img, hP, hC, hR⟩ := hI
  have hL := hP.1
  have ref : ∀ (p : Nat) (e : Int32), -e = nI p → 1 ≤ p → p < 7 → (∀ M2, (∀ k, k ≠ 2 → M2 k = M k) → (∀ K2 : Int32 → q_M → Prop, (q_Ci X (d - 1) 91 [.ref 97, .int e] M2 K2) → q_Ci X d 101 [.ref 97, .int a] M2 K2)) → q_Ci X (d - 1) 72 [.ref 0, .int e] M (fun r4 M3 => q_Ci X d 101 [.ref 97, .int a] M3 (fun r' M4 => K r4 r' M4)) := by
    intro p e hp h1 h2 hw
    exact cx_ref hp h1 h2 hP hC (fun M2 f2 C2 => hw M2 f2 _ (Inv.refR ht hp h1 h2 hP C2 (hR.lo (fun k hk => f2 k (by omega))) (fun M4 I4 => hK e M4 I4)))
  have h97 : M 97 6 = nI L := hR.1
  refine vc44 (by omega) ⟨fun g0 => ⟨fun g1 => ?_, fun g1 => ⟨fun g2 => ?_, fun g2 => ?_⟩⟩, fun g0 => ?_⟩
  · refine ref 6 (-6) rfl (by decide) (by decide) (fun M2 f2 K2 hq => vc101 (by omega) (vc93 ⟨fun _ => ⟨fun q => ?_, fun _ => ⟨fun _ => hq, fun q => absurd q (by decide)⟩⟩, fun q => absurd g0 q⟩))
    rw [Int32.le_iff_toInt_le] at q
    rw [Int32.lt_iff_toInt_lt] at g1
    omega
  · rw [hC.1] at g2 ⊢
    have hL48 : L < 48 := (q_lt (b := 48) (by omega) (by decide)).mp g2
    obtain ⟨c, hc, rfl⟩ := q_nn' g0
    have hc256 : c < 256 := by
      rcases Nat.lt_or_ge c 256 with q | q
      · exact q
      · exact absurd ((q_lt (a := 255) (by decide) hc).mpr (by omega)) g1
    rw [q_cn (by omega), nI_1]
    refine ⟨q_vi hL48 (by decide), ?_⟩
    have e97 : ∀ k, 2 ≤ k → (q_set (q_set M 1 L (nI c)) 0 1 (nI (L + 1))) k = M k := fun k hk => by rw [q_set_n (by omega), q_set_n (by omega)]
    have R2 := hR.lo (fun k hk => e97 k (by omega))
    refine vc101 (by omega) (vc93 ⟨fun _ => ⟨fun _ => ⟨fun q => absurd rfl q, fun _ => ?_⟩, fun q => absurd ?_ q⟩, fun q => absurd g0 q⟩)
    · rw [R2.1, nI_1, q_cn (by omega)]
      refine ⟨fun _ => ⟨q_vi hL48 (by decide), ?_⟩, fun q => absurd ((q_eq (b := 48) (by omega) (by decide)).mp q) (by omega)⟩
      refine hK _ _ ⟨L + 1, S, p_up tp L c, rf, h, g, img, ?_, ?_, ?_⟩
      · obtain ⟨p1, p2, p3, p4, p5⟩ := hP
        refine ⟨by omega, fun j hj => ?_, by omega, by omega, p5⟩
        by_cases e : j = L
        · subst e; rw [p_up_s]; exact hc256
        · rw [p_up_n e]; exact p2 j (by omega)
      · have C2 := hC.hi hP (M' := M) (fun _ _ => rfl)
        have eH : ∀ k, 2 ≤ k → k < 97 → (q_set (q_set (q_set (q_set M 1 L (nI c)) 0 1 (nI (L + 1))) 102 L (nI c)) 97 6 (nI (L + 1))) k = M k := fun k a b => by rw [q_set_n (by omega), q_set_n (by omega)]; exact e97 k a
        have e0 : ∀ j, j ≠ 1 → (q_set (q_set (q_set (q_set M 1 L (nI c)) 0 1 (nI (L + 1))) 102 L (nI c)) 97 6 (nI (L + 1))) 0 j = M 0 j := fun j hj => by rw [q_set_n (by decide), q_set_n (by decide), q_set_ap, if_neg (by omega), q_set_n (by decide)]
        obtain ⟨c1, c2, c3, c4, c5, c6, c7, c8, c9, c10⟩ := C2
        have p6 := hP.2.2.2.2.2.1
        have p7 := hP.2.2.2.2.2.2
        refine ⟨by simp [q_set_ap], fun j hj => ?_, fun j a b => by rw [eH 2 (by decide) (by decide)]; exact c3 j a b, by rw [e0 14 (by decide)]; exact c4, by rw [e0 15 (by decide)]; exact c5, c6.eq (fun k hk => eH k (by omega) (by omega)), c7.eq (e0 16 (by decide)) (eH 89 (by decide) (by decide)), fun q => (c8 (by rw [e0 15 (by decide)] at q; exact q)).eq p6 (fun k a b => eH k (by omega) (by omega)), by rw [e0 6 (by decide)]; exact c9, fun i => ⟨(c10 i).1.eq (fun k hk => eH k (by omega) (by omega)), fun q => ((c10 i).2 (by rw [e0 15 (by decide)] at q; exact q)).eq (p7 i).2.1 (fun k a b => eH k (by omega) (by omega))⟩⟩
        rw [q_set_n (by decide), q_set_n (by decide), q_set_n (by decide), q_set_ap]
        by_cases e : j = L
        · subst e; rw [if_pos ⟨rfl, rfl⟩, p_up_s]
        · rw [if_neg (fun y => e y.2), p_up_n e]; exact c2 j (by omega)
      · obtain ⟨c1, c2, c3, c4, c5, c6⟩ := R2
        refine ⟨by simp [q_set_ap], fun j hj => ?_, fun j a b => ?_, ?_, ?_, fun i => ?_⟩
        · rw [q_set_n (by decide), q_set_ap]
          by_cases e : j = L
          · subst e; rw [if_pos ⟨rfl, rfl⟩, p_up_s]
          · rw [if_neg (fun y => e y.2), p_up_n e]; exact c2 j (by omega)
        · rw [q_set_n (by decide), q_set_n (by decide)]; exact c3 j a b
        · rw [q_set_n (by decide), q_set_n (by decide)]; exact c4
        · rw [q_set_ap, if_neg (by omega), q_set_n (by decide)]; exact c5
        · rw [q_set_n (by decide), q_set_n (by decide)]; exact c6 i
    · exact (q_le (b := 255) hc (by decide)).mpr (by omega)
  · rw [hC.1] at g2
    have hL48 : L = 48 := by
      have : ¬ L < 48 := fun q => g2 ((q_lt (b := 48) (by omega) (by decide)).mpr q)
      omega
    refine ref 6 (-6) rfl (by decide) (by decide) (fun M2 f2 K2 hq => vc101 (by omega) (vc93 ⟨fun _ => ⟨fun _ => ⟨fun q => absurd rfl q, fun _ => ⟨fun q => ?_, fun _ => hq⟩⟩, fun q => ?_⟩, fun q => absurd g0 q⟩))
    · rw [f2 97 (by decide), h97, hL48] at q
      exact absurd rfl q
    · rw [Int32.le_iff_toInt_le] at q
      rw [Int32.lt_iff_toInt_lt] at g1
      omega
  · exact ref 4 (-4) rfl (by decide) (by decide) (fun M2 f2 K2 hq => vc101 (by omega) (vc93 ⟨fun q => absurd q g0, fun _ => ⟨fun _ => hq, fun q => absurd q (by decide)⟩⟩))
theorem call_cell {a b : Int32} (hd : 80 ≤ d) (ht : t < 600) (hI : Inv t M) (hK : ∀ r M', Inv (t + 1) M' → K r r M') : q_two X d 46 105 [.ref 0, .int a, .int b] [.ref 97, .int a, .int b] M K := by
  obtain ⟨L, S, tp, rf, h, g, img, hP, hC, hR⟩ := hI
  obtain ⟨R, C, n, kd, co, nu, dc, wc, num, w, o, ks, se, ln, st⟩ := h
  have ho := hP.2.2.2.2.2.1
  have hw := ho.1
  have hRC := b_RC hw
  have hb : b_now M R C n kd co nu dc wc := hC.2.2.2.2.2.1.1
  have hb1 := hb.2.2.2.2.2.1
  have hbr : ∀ M2 : q_M, (∀ k, k ≠ 2 → M2 k = M k) → r_b M2 R C n kd co nu := fun M2 f => hR.2.2.2.1.b (f 99 (by decide))
  have bs := hR.2.2.2.1.1.2.2.2
  refine vc46 (by omega) (c_hasCell hb.2.2.1 (by omega) (fun j hj e => ⟨fun _ => ?_, fun q => absurd q (by decide)⟩) (fun hno => ⟨fun q => absurd rfl q, fun _ => ?_⟩))
  · subst e
    rw [q_cn (by omega)]
    have hv : vp_in (nI j) 30 := q_vi (by omega) (by decide)
    obtain ⟨s1, s2, s3⟩ := bs j hj
    obtain ⟨k1, k2, k3⟩ := hb1 j hj
    have two : ∀ (v : Nat), v < 3 → b = nI v → M 99 (45 + 3 * j + v) = M (12 + v) j → K (M (12 + v) j) (M (12 + v) j) M → q_Ci X d 105 [.ref 97, .int (nI j), .int b] M (fun r' M4 => K (M (12 + v) j) r' M4) := by
      intro v hv3 e he hk
      subst e
      refine vc105 (by omega) (r_isCell (by omega) (hbr M (fun _ _ => rfl)) (by omega) (fun _ _ _ => ⟨fun _ => ?_, fun q => absurd q (by decide)⟩) (fun q => absurd rfl (q j hj)))
      refine r_isIn (fun _ _ => ⟨fun q => absurd q (by decide), fun _ => ?_⟩) (fun q => ?_)
      · rw [r_ix0, nI_add, q_cn (by omega), he]
        exact ⟨q_vi (by omega) (by decide), hk⟩
      · rcases q with q | q
        · exact absurd q (q_nlt0 (by omega))
        · exact absurd ((q_lt (b := 3) (by omega) (by decide)).mpr hv3) q
    have iv : K (M 12 j) (M 12 j) M ∧ K (M 13 j) (M 13 j) M ∧ K (M 14 j) (M 14 j) M := by
      have I := Inv.q ht hP hC hR (r_fr.rf M)
      exact ⟨hK _ _ I, hK _ _ I, hK _ _ I⟩
    refine ⟨fun e => ⟨hv, two 0 (by decide) e (by rw [show 45 + 3 * j + 0 = 45 + 3 * j from rfl, s1, show 12 + 0 = 12 from rfl, k1]) iv.1⟩, fun e => ⟨hv, two 1 (by decide) e (by rw [show 45 + 3 * j + 1 = 46 + 3 * j by omega, s2, show 12 + 1 = 13 from rfl, k2]) iv.2.1⟩, fun e => ⟨hv, two 2 (by decide) e (by rw [show 45 + 3 * j + 2 = 47 + 3 * j by omega, s3, show 12 + 2 = 14 from rfl, k3]) iv.2.2⟩, fun e => ?_⟩
    refine cx_ref (p := 2) rfl (by decide) (by decide) hP hC (fun M2 f2 C2 => ?_)
    have R2 := hR.lo (fun k hk => f2 k (by omega))
    refine vc105 (by omega) (r_isCell (by omega) (hbr M2 f2) (by omega) (fun _ _ _ => ⟨fun _ => ?_, fun q => absurd q (by decide)⟩) (fun q => absurd rfl (q j hj)))
    refine r_isIn (fun g1 g2 => ?_) (fun _ => ⟨fun _ => Inv.refR ht (p := 2) rfl (by decide) (by decide) hP C2 R2 (fun M4 I4 => hK _ M4 I4), fun q => absurd rfl q⟩)
    obtain ⟨v, hv3, ev⟩ := q_in_nn (n := 3) rfl (by decide) g1 g2
    exfalso
    rcases (show v = 0 ∨ v = 1 ∨ v = 2 by omega) with z | z | z
    · subst z; exact e.1 ev
    · subst z; exact e.2.1 ev
    · subst z; exact e.2.2 ev
  · refine cx_ref (p := 1) rfl (by decide) (by decide) hP hC (fun M2 f2 C2 => ?_)
    have R2 := hR.lo (fun k hk => f2 k (by omega))
    exact vc105 (by omega) (r_isCell (by omega) (hbr M2 f2) (by omega) (fun j hj e => absurd e (hno j hj)) (fun _ => ⟨fun q => absurd rfl q, fun _ => Inv.refR ht (p := 1) rfl (by decide) (by decide) hP C2 R2 (fun M4 I4 => hK _ M4 I4)⟩))
/-- with another law, another order: what is left as it was -/
theorem call_law {a : Int32} (hd : 80 ≤ d) (ht : t < 600) (hI : Inv t M) (hK : ∀ r M', Inv (t + 1) M' → K r r M') : q_two X d 47 106 [.ref 0, .int a] [.ref 97, .int a] M K := by
  obtain ⟨L, S, tp, rf, h, g, img, hP, hC, hR⟩ := hI
  obtain ⟨R, C, n, kd, co, nu, dc, wc, num, w, o, ks, se, ln, st⟩ := h
  have ref : (a < 0 ∨ ¬ a < 5) → q_Ci X (d - 1) 72 [.ref 0, .int (-2)] M (fun r3 M2 => q_Ci X d 106 [.ref 97, .int a] M2 (fun r' M4 => K r3 r' M4)) := by
    intro hno
    refine cx_ref (p := 2) rfl (by decide) (by decide) hP hC (fun M2 f2 C2 => ?_)
    have R2 := hR.lo (fun k hk => f2 k (by omega))
    refine vc106 (by omega) (r_isIn (fun g1 g2 => ?_) (fun _ => ⟨fun q => absurd rfl q, fun _ => Inv.refR ht (p := 2) rfl (by decide) (by decide) hP C2 R2 (fun M4 I4 => hK _ M4 I4)⟩))
    rcases hno with q | q
    · exact absurd q g1
    · exact absurd g2 q
  refine vc47 (by omega) ⟨fun g0 => ref (Or.inl g0), fun g0 => ⟨fun g1 => ?_, fun g1 => ref (Or.inr g1)⟩⟩
  obtain ⟨v, hv, rfl⟩ := q_in_nn (n := 5) rfl (by decide) g0 g1
  refine vc106 (by omega) (r_isIn (fun _ _ => ⟨fun _ => ?_, fun q => absurd q (by decide)⟩) (fun q => ?_))
  · rw [q_set_n (by decide), q_set_n (by decide)]
    have e1 : M 99 3 = M 10 2 := by rw [hR.2.2.2.1.2.1, hC.2.2.2.2.2.1.2.2.1]
    rw [e1]
    refine hK _ _ ⟨L, S, tp, rf, (R, C, n, kd, co, nu, dc, wc, num, v, o, ks, se, ln, st), g, img, ?_, ?_, ?_⟩
    · obtain ⟨p1, p2, p3, p4, p5, p6, p7⟩ := hP
      obtain ⟨o1, o2, o3⟩ := p6
      exact ⟨p1, p2, by omega, by omega, p5, ⟨o1, hv, o3⟩, p7⟩
    · have eH : ∀ k, k ≠ 0 → k ≠ 10 → k < 97 → (q_set (q_set (q_set M 10 2 (nI v)) 0 16 (-1)) 99 3 (nI v)) k = M k := fun k a b c => by rw [q_set_n (by omega), q_set_n a, q_set_n b]
      have e0 : ∀ j, j ≠ 16 → (q_set (q_set (q_set M 10 2 (nI v)) 0 16 (-1)) 99 3 (nI v)) 0 j = M 0 j := fun j hj => by rw [q_set_n (by decide), q_set_ap, if_neg (by omega), q_set_n (by decide)]
      have e10 : ∀ j, j ≠ 2 → (q_set (q_set (q_set M 10 2 (nI v)) 0 16 (-1)) 99 3 (nI v)) 10 j = M 10 j := fun j hj => by rw [q_set_n (by decide), q_set_n (by decide), q_set_ap, if_neg (by omega)]
      obtain ⟨c1, c2, c3, c4, c5, c6, c7, c8, c9, c10⟩ := hC
      have p6 := hP.2.2.2.2.2.1
      have p7 := hP.2.2.2.2.2.2
      obtain ⟨d1, d2, d3, d4, d5, d6, d7⟩ := c6
      have bb : b_now M R C n kd co nu dc wc := d1
      refine ⟨by rw [e0 1 (by decide)]; exact c1, fun j hj => by rw [eH 1 (by decide) (by decide) (by decide)]; exact c2 j hj, fun j a b => by rw [eH 2 (by decide) (by decide) (by decide)]; exact c3 j a b, by rw [e0 14 (by decide)]; exact c4, by rw [e0 15 (by decide)]; exact c5, ⟨bb.eq (fun k a b => eH k (by omega) (by omega) (by omega)), by rw [e10 1 (by decide)]; exact d2, by simp [q_set_ap], by rw [e10 3 (by decide)]; exact d4, by rw [e10 4 (by decide)]; exact d5, fun j hj => by rw [eH 18 (by decide) (by decide) (by decide)]; exact d6 j hj, fun e he => by rw [eH 19 (by decide) (by decide) (by decide), eH (21 + e) (by omega) (by omega) (by omega)]; exact d7 e he⟩, Or.inl (by simp [q_set_ap]), fun q => ?_, by rw [e0 6 (by decide)]; exact c9, fun i => ⟨(c10 i).1.eq (fun k hk => eH k (by omega) (by omega) (by omega)), fun q => ((c10 i).2 (by rw [e0 15 (by decide)] at q; exact q)).eq (p7 i).2.1 (fun k a b => eH k (by omega) (by omega) (by omega))⟩⟩
      have hk : k_ok M R C n kd co nu dc wc := c8 (by rw [e0 15 (by decide)] at q; exact q)
      exact hk.eq p6.1.2.2.1 (fun k a b => eH k (by omega) (by omega) (by omega))
    · have R2 : IR (q_set (q_set M 10 2 (nI v)) 0 16 (-1)) L tp rf (R, C, n, kd, co, nu, dc, wc, num, w, o, ks, se, ln, st) g img := hR.lo (fun k hk => by rw [q_set_n (by omega), q_set_n (by omega)])
      obtain ⟨c1, c2, c3, c4, c5, c6⟩ := R2
      obtain ⟨⟨a1, a2, a3, a4⟩, a5, a6, a7, a8, a9⟩ := c4
      have ne : ∀ j, j ≠ 3 → (q_set (q_set (q_set M 10 2 (nI v)) 0 16 (-1)) 99 3 (nI v)) 99 j = (q_set (q_set M 10 2 (nI v)) 0 16 (-1)) 99 j := fun j hj => by rw [q_set_ap, if_neg (by omega)]
      refine ⟨by rw [q_set_n (by decide)]; exact c1, fun j hj => by rw [q_set_n (by decide)]; exact c2 j hj, fun j a b => by rw [q_set_n (by decide)]; exact c3 j a b, ⟨⟨by rw [ne 0 (by decide)]; exact a1, by rw [ne 1 (by decide)]; exact a2, by rw [ne 2 (by decide)]; exact a3, fun c hc => by rw [ne _ (by omega), ne _ (by omega), ne _ (by omega)]; exact a4 c hc⟩, by rw [q_set_ap, if_pos ⟨rfl, rfl⟩], fun e he => by rw [ne _ (by omega)]; exact a6 e he, by rw [ne 7 (by decide)]; exact a7, fun j hj => by rw [ne _ (by omega)]; exact a8 j hj, fun e he => ⟨by rw [ne _ (by omega)]; exact (a9 e he).1, fun j hj => by rw [ne _ (by omega)]; exact (a9 e he).2 j hj⟩⟩, by rw [q_set_n (by decide)]; exact c5, fun i => by rw [q_set_n (by decide)]; exact c6 i⟩
  · rcases q with q | q
    · exact absurd q g0
    · exact absurd g1 q
end Calls1
