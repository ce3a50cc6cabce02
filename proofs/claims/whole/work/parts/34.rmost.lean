/-! the reference: most, shuts, lost -/
theorem r_wfS {R C n c : Nat} {kd nu dc wc : Nat → Nat} (hw : r_wf R C n kd nu dc wc) (hc : kd c = 0) : r_wf R C n (g_st kd c) nu dc wc := by
  obtain ⟨a1, a2, a3, a4, a5, a6, a7, a8⟩ := hw
  have e2 : ∀ x, 2 ≤ g_st kd c x → g_st kd c x = kd x := fun x h => by
    unfold g_st at h ⊢
    by_cases e : x = c
    · rw [if_pos e] at h; omega
    · rw [if_neg e]
  have e3 : ∀ x, 2 ≤ kd x → g_st kd c x = kd x := fun x h => by
    unfold g_st
    rw [if_neg (fun e => by subst e; omega)]
  refine ⟨a1, a2, a3, a4, fun x hx => ⟨?_, fun h => (a5 x hx).2 (by rw [← e2 x h]; exact h)⟩, fun d hd => ?_, fun x hx h => a7 x hx (by rw [← e2 x (by omega)]; exact h), fun x hx h => a8 x hx (by rw [← e2 x (by omega)]; exact h)⟩
  · have := (a5 x hx).1
    unfold g_st
    split <;> omega
  · obtain ⟨b1, b2, b3, b4, b5, b6⟩ := a6 d hd
    rw [e3 (dc d) (by omega), e3 (wc d) (by omega)]
    exact ⟨b1, b2, b3, b4, b5, b6⟩
theorem r_bS {M : q_M} {R C n c : Nat} {kd co nu : Nat → Nat} (hb : r_b M R C n kd co nu) : r_b (q_set M 99 (45 + 3 * c) 1) R C n (g_st kd c) co nu := by
  obtain ⟨h0, h1, h2, h3⟩ := hb
  refine ⟨by rw [q_set_ap, if_neg (by omega)]; exact h0, by rw [q_set_ap, if_neg (by omega)]; exact h1, by rw [q_set_ap, if_neg (by omega)]; exact h2, fun x hx => ?_⟩
  obtain ⟨b1, b2, b3⟩ := h3 x hx
  refine ⟨?_, by rw [q_set_ap, if_neg (by omega)]; exact b2, fun q => ?_⟩
  · rw [q_set_ap]
    unfold g_st
    by_cases e : x = c
    · rw [if_pos ⟨rfl, by omega⟩, if_pos e]; rfl
    · rw [if_neg (by omega), if_neg e]; exact b1
  · rw [q_set_ap, if_neg (by omega)]
    refine b3 ?_
    unfold g_st at q
    by_cases e : x = c
    · rw [if_pos e] at q; omega
    · rw [if_neg e] at q; exact q
theorem q_set_back {M M' : q_M} {k j : Nat} {v : Int32} (h : M' k = q_set M k j v k) : q_set M' k j (M k j) k = M k := by
  rw [q_set_s, h, q_set_s]
  funext t
  unfold upd
  by_cases e : t = j
  · rw [if_pos e, e]
  · rw [if_neg e, if_neg e]
section RMost
variable {X : Nat × (Nat → Int32)} {R C n : Nat} {kd co nu dc wc : Nat → Nat}
theorem g_W_len (hw : r_wf R C n kd nu dc wc) {kd2 : Nat → Nat} : ∀ e, e < n → (g_W R C kd2 dc e).length ≤ 126 := fun e he => by
  have hdc := (hw.2.2.2.2.2.1 e he).1
  obtain ⟨hR2, hC2⟩ := r_Cpos hw hdc
  exact g_wy_len (by omega) hw.1 hw.2.1 hdc
theorem r_mostFrom {W : Nat → List (List Nat)} {N : Nat} (hN : N ≤ 30) (hn3 : n ≤ 3) (hWl : ∀ dr, dr < n → (W dr).length ≤ 126) (hWp : ∀ dr, dr < n → ∀ p ∈ W dr, ∀ c ∈ p, c < N) : ∀ (k d0 d s : Nat) (M : q_M) (K : Int32 → q_M → Prop), d0 + k = n → k + 2 ≤ d → s < 2 ^ 30 → M 99 2 = nI n → (∀ dr, dr < n → v_at M dr nu (W dr)) → K (nI (g_mst W k d0 s)) M → q_Ci X d 137 [.ref 97, .int (nI d0), .int (nI s)] M K := by
  intro k
  induction k with
  | zero =>
    intro d0 d s M K hk hd hs hn hv h
    refine vc137 (by omega) ⟨fun g => absurd (by rw [hn, show d0 = n by omega]) g, fun _ => h⟩
  | succ k ih =>
    intro d0 d s M K hk hd hs hn hv h
    have hd0 : d0 < n := by omega
    have hWd := hWl d0 hd0
    refine vc137 (by omega) ⟨fun _ => ?_, fun g => ?_⟩
    · rw [nI_1]
      refine ih (d0 + 1) (d - 1) s M _ (by omega) (by omega) hs hn hv ?_
      have loop : ∀ (j i v : Nat), i + j = (W d0).length → v ≤ k + 1 → K (nI (((W d0).drop i).foldl (fun a p => if g_bits p &&& s == 0 then max a (1 + g_mst W k (d0 + 1) (s ||| g_bits p)) else a) v)) M → q_Ex X d 137 24 [some (.ref 97), some (.int (nI d0)), some (.int (nI s)), some (.int (nI v)), some (.int (nI i)), none, none] [] M (q_ri K) := by
        intro j
        induction j with
        | zero =>
          intro i v hi hv2 hK
          rw [List.drop_of_length_le (by omega)] at hK
          refine vc137_p24 (by omega) ⟨q_vi (by omega) (by decide), fun _ => hK, fun g => absurd ?_ g⟩
          rw [q_cn (by omega), (hv d0 hd0).1, q_le (by omega) (by omega)]; omega
        | succ j ihj =>
          intro i v hi hv2 hK
          have hil : i < (W d0).length := by omega
          obtain ⟨p, hp⟩ : ∃ p, (W d0)[i]? = some p := ⟨(W d0)[i], List.getElem?_eq_getElem hil⟩
          have hpm : p ∈ W d0 := List.mem_of_getElem? hp
          have hdrop : (W d0).drop i = p :: (W d0).drop (i + 1) := by
            rw [List.drop_eq_getElem_cons hil]
            rw [List.getElem?_eq_getElem hil] at hp
            cases hp; rfl
          have hgb : g_bits p < 2 ^ 30 := g_bits_31 (hWp d0 hd0 p hpm) hN
          obtain ⟨v1, -, -, -⟩ := (hv d0 hd0).2 i p hp
          have hand : g_bits p &&& s ≤ s := Nat.and_le_right
          have hvx : vp_in (nI (400 * d0 + i)) 1200 := q_vi (by omega) (by decide)
          refine vc137_p24 (by omega) ?_
          rw [show (400 : Int32) * nI d0 = nI (400 * d0) from pk_mul 400 d0, nI_add, q_cn (show d0 < 2 ^ 31 by omega), q_cn (show 400 * d0 + i < 2 ^ 31 by omega), (hv d0 hd0).1, v1, hn, pk_sub (by omega), n_and, n_or, nI_1, nI_1, q_le (by omega) (by omega), q_le (by omega) (by omega)]
          refine ⟨q_vi (by omega) (by decide), fun g => absurd g (by omega), fun _ => ⟨fun g => ?_, fun _ => ⟨hvx, fun g => ⟨hvx, ?_⟩, fun g => ?_⟩⟩⟩
          · rw [g_mst_top W k d0 s _ v (by omega)] at hK
            exact hK
          · have q : (g_bits p &&& s == 0) = true := by
              have : g_bits p &&& s = 0 := (q_eq (b := 0) (by omega) (by omega)).mp g
              simp [this]
            rw [hdrop, List.foldl_cons, if_pos q] at hK
            have hle := (g_mst_max W k (d0 + 1) (s ||| g_bits p)).2
            refine ih (d0 + 1) (d - 1) (s ||| g_bits p) M _ (by omega) (by omega) (Nat.or_lt_two_pow hs hgb) hn hv ?_
            rw [show (1 : Int32) + nI (g_mst W k (d0 + 1) (s ||| g_bits p)) = nI (1 + g_mst W k (d0 + 1) (s ||| g_bits p)) from nI_add 1 _, q_le (by omega) (by omega)]
            refine ⟨fun g2 => ihj (i + 1) v (by omega) hv2 ?_, fun g2 => ihj (i + 1) _ (by omega) (by omega) ?_⟩
            · rw [Nat.max_eq_left g2] at hK; exact hK
            · rw [Nat.max_eq_right (by omega)] at hK; exact hK
          · have q : (g_bits p &&& s == 0) = false := by
              have : ¬ g_bits p &&& s = 0 := fun q => g (by rw [q]; rfl)
              simp [this]
            rw [hdrop, List.foldl_cons, if_neg (by rw [q]; decide)] at hK
            exact ihj (i + 1) v (by omega) hv2 hK
      refine loop (W d0).length 0 _ (by omega) ?_ (by rw [List.drop_zero]; exact h)
      have := (g_mst_max W k (d0 + 1) s).2
      omega
    · rw [hn, q_eq (by omega) (by omega)] at g; omega
theorem r_mostNow (hw : r_wf R C n kd nu dc wc) {d : Nat} {M : q_M} {K : Int32 → q_M → Prop} (hd : 17 ≤ d) (hb : r_b M R C n kd co nu) (h : ∀ M', (∀ k, k < 104 ∨ 108 < k → M' k = M k) → K (nI (g_mst (g_W R C kd dc) n 0 0)) M') : q_Ci X d 138 [.ref 97] M K := by
  have hn3 := hw.2.2.1
  refine vc138 (by omega) (r_findsWays hw (by omega) hb (fun M1 f1 w1 => ?_))
  exact r_mostFrom (r_RC hw) hn3 (g_W_len hw) (fun e he p hp => (g_wy_ok hw (hw.2.2.2.2.2.1 e he).1 p hp).1) n 0 (d - 1) 0 M1 K (by omega) (by omega) (by decide) (by rw [f1 99 (by omega)]; exact hb.2.2.1) w1 (h M1 f1)
theorem g_W_st (hw : r_wf R C n kd nu dc wc) {c : Nat} (hc : kd c = 0) : ∀ e, e < n → g_W R C (g_st kd c) dc e = (g_W R C kd dc e).filter (g_no c) := fun e he => by
  have := (hw.2.2.2.2.2.1 e he).2.1
  exact g_wy_st (fun q => by rw [q] at this; omega)
theorem g_sel_congr {W W2 : Nat → List (List Nat)} : ∀ (k d s : Nat), (∀ e, d ≤ e → e < d + k → W e = W2 e) → g_sel W k d s = g_sel W2 k d s ∧ g_mst W k d s = g_mst W2 k d s := by
  intro k
  induction k with
  | zero => intro d s _; exact ⟨rfl, rfl⟩
  | succ k ih =>
    intro d s h
    have i2 := fun s => ih (d + 1) s (fun e h1 h2 => h e (by omega) (by omega))
    unfold g_sel g_mst
    rw [h d (Nat.le_refl _) (by omega), (i2 s).1, (i2 s).2]
    refine ⟨?_, ?_⟩
    · congr 1
      refine fm_congr (fun p _ => ?_)
      rw [(i2 _).1]
    · congr 1
      funext a p
      rw [(i2 _).2]
/-- the cells that shut -/
def g_shut (R C n : Nat) (kd dc : Nat → Nat) (c : Nat) : Bool := decide (kd c = 0) && decide (g_mst (g_W R C (g_st kd c) dc) n 0 0 < g_mst (g_W R C kd dc) n 0 0)
theorem r_shuts (hw : r_wf R C n kd nu dc wc) {d : Nat} {M : q_M} {K : Int32 → q_M → Prop} (hd : 19 ≤ d) (hb : r_b M R C n kd co nu) (h : ∀ M' b, r_fr M M' → b < 2 ^ 30 → (∀ c, b.testBit c = (decide (c < R * C) && g_shut R C n kd dc c)) → K (nI b) M') : q_Ci X d 140 [.ref 97] M K := by
  have hRC := r_RC hw
  have hmn := (g_mst_max (g_W R C kd dc) n 0 0).2
  have hn3 := hw.2.2.1
  refine vc140 (by omega) (r_mostNow hw (by omega) hb (fun M1 f1 => ?_))
  have loop : ∀ (j i b : Nat) (M2 : q_M), i + j = R * C → (∀ k, k < 104 ∨ 108 < k → M2 k = M k) → b < 2 ^ 30 → (∀ c, b.testBit c = (decide (c < i) && g_shut R C n kd dc c)) → q_Ex X d 140 9 [some (.ref 97), some (.int (nI (g_mst (g_W R C kd dc) n 0 0))), some (.int (nI b)), some (.int (nI i))] [] M2 (q_ri K) := by
    intro j
    induction j with
    | zero =>
      intro i b M2 hi f2 hb2 hbt
      have hb2 : r_b M2 R C n kd co nu := hb.eq (f2 99 (by omega))
      refine vc140_p9 (by omega) (r_cells hb2 ⟨fun _ => ?_, fun g => absurd ((q_le (by omega) (by omega)).mpr (by omega)) g⟩)
      exact h M2 b ⟨fun k hk => f2 k (by omega), by rw [f2 97 (by omega)], by rw [f2 97 (by omega)]⟩ (by assumption) (fun c => by rw [hbt c, show i = R * C by omega])
    | succ j ih =>
      intro i b M2 hi f2 hb2 hbt
      have hi2 : i < R * C := by omega
      have hb2' : r_b M2 R C n kd co nu := hb.eq (f2 99 (by omega))
      have hk3 := (hw.2.2.2.2.1 i hi2).1
      refine vc140_p9 (by omega) (r_cells hb2' ⟨fun g => absurd ((q_le (by omega) (by omega)).mp g) (by omega), fun _ => ?_⟩)
      refine r_what (by omega) ?_
      rw [(hb2'.2.2.2 i hi2).1, show (0 : Int32) = nI 0 from rfl, q_eq (by omega) (by decide), r_ix0, q_cn (by omega), nI_1]
      refine ⟨fun g => ⟨q_vi (by omega) (by decide), ?_⟩, fun g => ?_⟩
      · refine r_mostNow (r_wfS hw g) (by omega) (r_bS hb2') (fun M7 f7 => ?_)
        have hm7 := (g_mst_max (g_W R C (g_st kd i) dc) n 0 0).2
        have e99 : q_set M7 99 (45 + 3 * i) (nI 0) 99 = M2 99 := by
          have e0 : nI 0 = M2 99 (45 + 3 * i) := by rw [(hb2'.2.2.2 i hi2).1, g]
          rw [e0]
          exact q_set_back (f7 99 (by omega))
        have f3 : ∀ k, k < 104 ∨ 108 < k → q_set M7 99 (45 + 3 * i) (nI 0) k = M k := fun k hk => by
          by_cases e : k = 99
          · subst e; rw [e99]; exact f2 99 hk
          · rw [q_set_n e, f7 k hk, q_set_n e]; exact f2 k hk
        rw [q_le (by omega) (by omega), n_sh i (by omega), n_or, n_or]
        refine ⟨fun g2 => ⟨q_vi (by omega) (by decide), ?_⟩, fun g2 => ⟨q_vi (by omega) (by decide), ?_⟩⟩
        · rw [Nat.or_zero]
          refine ih (i + 1) b _ (by omega) f3 hb2 (fun c => ?_)
          rw [hbt c]
          by_cases e : c = i
          · subst e
            have : g_shut R C n kd dc c = false := by unfold g_shut; rw [decide_eq_false (show ¬ g_mst (g_W R C (g_st kd c) dc) n 0 0 < g_mst (g_W R C kd dc) n 0 0 by omega), Bool.and_false]
            rw [this, Bool.and_false, Bool.and_false]
          · rw [show decide (c < i + 1) = decide (c < i) by simp; omega]
        · refine ih (i + 1) (b ||| 2 ^ i) _ (by omega) f3 (Nat.or_lt_two_pow hb2 (Nat.pow_lt_pow_right (by decide) (by omega))) (fun c => ?_)
          rw [Nat.testBit_or, hbt c, Nat.testBit_two_pow]
          by_cases e : c = i
          · subst e
            have : g_shut R C n kd dc c = true := by unfold g_shut; rw [decide_eq_true g, decide_eq_true (show g_mst (g_W R C (g_st kd c) dc) n 0 0 < g_mst (g_W R C kd dc) n 0 0 by omega)]; rfl
            rw [this]; simp
          · rw [show decide (c < i + 1) = decide (c < i) by simp; omega, decide_eq_false (show ¬ i = c by omega), Bool.or_false]
      · refine ih (i + 1) b M2 (by omega) f2 hb2 (fun c => ?_)
        rw [hbt c]
        by_cases e : c = i
        · subst e
          have : g_shut R C n kd dc c = false := by unfold g_shut; rw [decide_eq_false g, Bool.false_and]
          rw [this, Bool.and_false, Bool.and_false]
        · rw [show decide (c < i + 1) = decide (c < i) by simp; omega]
  exact loop (R * C) 0 0 M1 (by omega) f1 (by decide) (fun c => by simp)
theorem r_allNow (hw : r_wf R C n kd nu dc wc) {d w o ks : Nat} {se : Nat → Nat} {M : q_M} {K : Int32 → q_M → Prop} (hd : 18 ≤ d) (hb : r_b M R C n kd co nu) (hco : ∀ c, c < R * C → co c ≤ 9) (hs : r_st M (R * C) n w o ks se) (h : ∀ M', x_fr M M' → K (nI (g_law (g_W R C kd dc) nu w o n).length) M') : q_Ci X d 125 [.ref 97] M K := by
  refine vc125 (by omega) ?_
  refine r_findsByLaw hw (wk := none) (by omega) hb hco hs (fun k e => by cases e) (fun M1 f1 w1 z1 => ?_)
  rw [z1.1]
  exact h M1 f1
theorem g_law_st (hw : r_wf R C n kd nu dc wc) {w o c : Nat} (hc : kd c = 0) : g_law (g_W R C (g_st kd c) dc) nu w o n = (g_law (g_W R C kd dc) nu w o n).filter (fun f => f.all (g_no c)) := by
  rw [← g_fam_filter]
  exact g_fam_congr _ _ _ _ _ n 0 0 (fun e _ he => g_W_st hw hc e (by omega)) (fun _ _ _ _ _ => rfl)
theorem r_st.set {M : q_M} {N n w o ks j : Nat} {se : Nat → Nat} {v : Int32} (h : r_st M N n w o ks se) (hn : n ≤ 3) (hj : 45 ≤ j) : r_st (q_set M 99 j v) N n w o ks se := by
  obtain ⟨s1, s2, s3, s4, s5, s6⟩ := h
  refine ⟨by rw [q_set_ap, if_neg (by omega)]; exact s1, s2, fun d hd => ⟨by rw [q_set_ap, if_neg (by omega)]; exact (s3 d hd).1, (s3 d hd).2⟩, by rw [q_set_ap, if_neg (by omega)]; exact s4, s5, fun j hj => ⟨by rw [q_set_ap, if_neg (by omega)]; exact (s6 j hj).1, (s6 j hj).2⟩⟩
/-- STONE more, of an empty cell -/
theorem r_lostIn (hw : r_wf R C n kd nu dc wc) {d w o ks c : Nat} {se : Nat → Nat} {M : q_M} {K : Int32 → q_M → Prop} (hd : 18 ≤ d) (hb : r_b M R C n kd co nu) (hco : ∀ c, c < R * C → co c ≤ 9) (hs : r_st M (R * C) n w o ks se) (hc : c < R * C) (hk : kd c = 0) (h : ∀ M', r_fr M M' → K (nI (z_cnt (g_law (g_W R C kd dc) nu w o n) c)) M') : q_Ci X d 125 [.ref 97] M (fun r10 M9 => vp_in ((45 : Int32) + (3 : Int32) * nI c) 135 ∧ (q_Ci X d 125 [.ref 97] (q_set M9 99 (Int32.toNatClampNeg ((45 : Int32) + (3 : Int32) * nI c)) 1) (fun r12 M11 => vp_in ((45 : Int32) + (3 : Int32) * nI c) 135 ∧ (K (r10 - r12) (q_set M11 99 (Int32.toNatClampNeg ((45 : Int32) + (3 : Int32) * nI c)) 0))))) := by
  have hRC := r_RC hw
  refine r_allNow hw hd hb hco hs (fun M9 f9 => ⟨by rw [r_ix0]; exact q_vi (by omega) (by decide), ?_⟩)
  have e9 : M9 99 = M 99 := f9.1 99 (by decide) (by omega)
  rw [r_ix0, q_cn (by omega)]
  refine r_allNow (r_wfS hw hk) hd (r_bS (hb.eq e9)) hco ((hs.eq e9).set hw.2.2.1 (by omega)) (fun M11 f11 => ⟨q_vi (by omega) (by decide), ?_⟩)
  rw [g_law_st hw hk, pk_sub (List.length_filter_le _ _), f_st_cnt]
  refine h _ ⟨fun k hq => ?_, by rw [q_set_n (by decide), f11.2 4 (by omega), q_set_n (by decide), f9.2 4 (by omega)], by rw [q_set_n (by decide), f11.2 6 (by omega), q_set_n (by decide), f9.2 6 (by omega)]⟩
  by_cases e : k = 99
  · subst e
    have e0 : (0 : Int32) = M9 99 (45 + 3 * c) := by rw [e9, (hb.2.2.2 c hc).1, hk]; rfl
    rw [e0, q_set_back (f11.1 99 (by decide) (by omega))]
    exact e9
  · rw [q_set_n e, f11.1 k (by omega) (by omega), q_set_n e]
    exact f9.1 k (by omega) (by omega)
/-- what shuts in the class is what shuts in the reference -/
theorem g_way_free (hw : r_wf R C n kd nu dc wc) {e i : Nat} (he : e < n) {p : List Nat} (hp : p ∈ g_W R C kd dc e) (hi : i ∈ p) : i < R * C ∧ kd i ≠ 1 := by
  obtain ⟨hdc, hdk, -⟩ := hw.2.2.2.2.2.1 e he
  obtain ⟨hR2, hC2⟩ := r_Cpos hw hdc
  obtain ⟨lk, l0⟩ := g_wy_lk (by omega) hdc p hp
  refine ⟨(g_wy_ok hw hdc p hp).1 i hi, ?_⟩
  obtain ⟨k, hk⟩ := List.getElem?_of_mem hi
  cases k with
  | zero =>
    rw [l0] at hk
    cases hk
    omega
  | succ k =>
    have hk1 : k < p.length := by have := (List.getElem?_eq_some_iff.mp hk).1; omega
    obtain ⟨st, hst, h1⟩ := lk_at p lk k p[k] i (List.getElem?_eq_getElem hk1) hk
    rcases (show st = 0 ∨ st = 1 by omega) with e | e
    · subst e; exact (g_nx0 h1).2.2
    · subst e; exact (g_nx1 h1).2.2
theorem g_shut_eq (hw : r_wf R C n kd nu dc wc) {b b2 : Nat} (h1 : ∀ i, b.testBit i = (((g_sel (g_W R C kd dc) n 0 0).foldl t_ms (0, 0)).2.testBit i && !((List.range n).any fun e => decide (i = dc e) || decide (i = wc e)))) (h2 : ∀ c, b2.testBit c = (decide (c < R * C) && g_shut R C n kd dc c)) : b = b2 := by
  apply Nat.eq_of_testBit_eq
  intro i
  rw [Bool.eq_iff_iff, h1 i, h2 i, Bool.and_eq_true, Bool.and_eq_true, (t_ms_max (g_W R C kd dc) n).2 i, decide_eq_true_eq]
  have hst : kd i = 0 → (g_mst (g_W R C (g_st kd i) dc) n 0 0 < g_mst (g_W R C kd dc) n 0 0 ↔ ∀ x ∈ g_sel (g_W R C kd dc) n 0 0, t_cnt x = g_mst (g_W R C kd dc) n 0 0 → (t_bits x).testBit i = true) := fun hk => by
    rw [← g_mst_st (c := i) (g_W R C kd dc)]
    have e := (g_sel_congr (W := g_W R C (g_st kd i) dc) (W2 := fun d => (g_W R C kd dc d).filter (g_no i)) n 0 0 (fun e _ he => g_W_st hw hk e (by omega))).2
    rw [e]
  unfold g_shut
  constructor
  · rintro ⟨u1, u2⟩
    obtain ⟨⟨⟨z, z1, z2⟩, z3⟩, -⟩ := g_mst_max (g_W R C kd dc) n 0 0
    have hz := u1 z z1 z2
    have hzm : ∃ q, some q ∈ z ∧ i ∈ q := by
      clear z1 z2
      induction z with
      | nil => simp [t_bits] at hz
      | cons a r ih =>
        cases a with
        | none => obtain ⟨q, q1, q2⟩ := ih hz; exact ⟨q, List.mem_cons_of_mem _ q1, q2⟩
        | some p =>
          rw [t_bits, Nat.testBit_or, Bool.or_eq_true] at hz
          rcases hz with h | h
          · exact ⟨p, List.mem_cons_self, (g_bits_tb p i).mp h⟩
          · obtain ⟨q, q1, q2⟩ := ih h; exact ⟨q, List.mem_cons_of_mem _ q1, q2⟩
    obtain ⟨q, q1, q2⟩ := hzm
    obtain ⟨e, e1, e2, e3⟩ := (g_sel_ok (g_W R C kd dc) n 0 0 z z1).2 q q1
    obtain ⟨w1, w2⟩ := g_way_free hw (by omega) e3 q2
    have k3 := hw.2.2.2.2.1 i w1
    have hk : kd i = 0 := by
      rcases (show kd i = 0 ∨ kd i = 2 ∨ kd i = 3 by omega) with k | k | k
      · exact k
      · exfalso
        have hn := k3.2 (by omega)
        have hd := hw.2.2.2.2.2.2.1 i w1 k
        have : ((List.range n).any fun e => decide (i = dc e) || decide (i = wc e)) = true := List.any_eq_true.mpr ⟨nu i, List.mem_range.mpr hn, by rw [decide_eq_true hd]; rfl⟩
        rw [this] at u2
        exact absurd u2 (by decide)
      · exfalso
        have hn := k3.2 (by omega)
        have hd := hw.2.2.2.2.2.2.2 i w1 k
        have : ((List.range n).any fun e => decide (i = dc e) || decide (i = wc e)) = true := List.any_eq_true.mpr ⟨nu i, List.mem_range.mpr hn, by rw [decide_eq_true hd, Bool.or_true]⟩
        rw [this] at u2
        exact absurd u2 (by decide)
    exact ⟨w1, by rw [decide_eq_true hk, decide_eq_true ((hst hk).mpr u1)]; rfl⟩
  · rintro ⟨w1, u⟩
    rw [Bool.and_eq_true, decide_eq_true_eq, decide_eq_true_eq] at u
    refine ⟨(hst u.1).mp u.2, ?_⟩
    have : ((List.range n).any fun e => decide (i = dc e) || decide (i = wc e)) = false := by
      rw [List.any_eq_false]
      intro e he
      obtain ⟨b1, b2, b3, b4, b5, b6⟩ := hw.2.2.2.2.2.1 e (List.mem_range.mp he)
      have n1 : ¬ i = dc e := fun q => by rw [q] at u; omega
      have n2 : ¬ i = wc e := fun q => by rw [q] at u; omega
      rw [decide_eq_false n1, decide_eq_false n2]
      decide
    rw [this]
    rfl
end RMost
