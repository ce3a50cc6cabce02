/-! the law's loop -/
theorem Inv.up {t : Nat} {M : q_M} (ht : t < 600) (hI : Inv t M) : Inv (t + 1) M := by
  obtain ⟨L, S, tp, rf, h, g, img, hP, hC, hR⟩ := hI
  exact ⟨L, S, tp, rf, h, g, img, hP.up ht, hC, hR⟩
theorem law_loop {X : Nat × (Nat → Int32)} {d : Nat} {K : Int32 → q_M → Prop} (hd : 200 ≤ d) (hX : X.1 ≤ 2048) (hK : ∀ M', K 1 M') : ∀ (j t : Nat) (M : q_M), t + j = 513 → Inv t M → q_Ex X d 159 18 [some (.ref 1003), some (.ref 0), some (.ref 97), some (.int (nI (4 * t)))] [] M (q_ri K) := by
  intro j
  induction j with
  | zero =>
    intro t M ht _
    refine vcL_p18 (by omega) ⟨fun _ => hK M, fun q => absurd ?_ q⟩
    have h1 : ((Int32.ofNat X.1 : Int32) - 4).toInt = (X.1 : Int) - 4 := pk_sub_toInt (a := X.1) (b := 4) (by omega) (by decide)
    rw [Int32.lt_iff_toInt_lt, h1, nI_toInt (by omega)]
    omega
  | succ j ih =>
    intro t M ht hI
    have h1 : ((Int32.ofNat X.1 : Int32) - 4).toInt = (X.1 : Int) - 4 := pk_sub_toInt (a := X.1) (b := 4) (by omega) (by decide)
    refine vcL_p18 (by omega) ⟨fun _ => hK M, fun q => ?_⟩
    have h4 : 4 * t + 4 ≤ X.1 := by
      rw [Int32.lt_iff_toInt_lt, h1, nI_toInt (by omega)] at q
      omega
    have ht5 : t < 600 := by omega
    have v0 : vp_in (nI (4 * t)) X.1 := q_vi (by omega) (by omega)
    have v1 : vp_in (nI (4 * t) + 1) X.1 := by rw [nI_1]; exact q_vi (by omega) (by omega)
    have v2 : vp_in (nI (4 * t) + 2) X.1 := by rw [show nI (4 * t) + 2 = nI (4 * t + 2) from nI_add (4 * t) 2]; exact q_vi (by omega) (by omega)
    have v3 : vp_in (nI (4 * t) + 3) X.1 := by rw [show nI (4 * t) + 3 = nI (4 * t + 3) from nI_add (4 * t) 3]; exact q_vi (by omega) (by omega)
    have e4 : nI (4 * t) + 4 = nI (4 * (t + 1)) := by rw [show nI (4 * t) + 4 = nI (4 * t + 4) from nI_add (4 * t) 4]; congr 1
    have nx : ∀ M', Inv (t + 1) M' → q_Ex X d 159 18 [some (.ref 1003), some (.ref 0), some (.ref 97), some (.int (nI (4 * t) + 4))] [] M' (q_ri K) := fun M' I => by rw [e4]; exact ih (t + 1) M' (by omega) I
    have fin : ∀ (r : Int32) (M' : q_M), Inv (t + 1) M' → ((r = r → q_Ex X d 159 18 [some (.ref 1003), some (.ref 0), some (.ref 97), some (.int (nI (4 * t) + 4))] [] M' (q_ri K)) ∧ (¬ r = r → K 0 M')) := fun r M' I => ⟨fun _ => nx M' I, fun q => absurd rfl q⟩
    refine ⟨v0, fun _ => ⟨v1, q_Ci.mono (call_letter (K := fun r r' M4 => (r = r' → q_Ex X d 159 18 [some (.ref 1003), some (.ref 0), some (.ref 97), some (.int (nI (4 * t) + 4))] [] M4 (q_ri K)) ∧ (¬ r = r' → K 0 M4)) (by omega) ht5 hI fin) (fun _ _ z => ⟨v1, z⟩)⟩,
      fun _ => call_slope (K := fun r r' M4 => (r = r' → q_Ex X d 159 18 [some (.ref 1003), some (.ref 0), some (.ref 97), some (.int (nI (4 * t) + 4))] [] M4 (q_ri K)) ∧ (¬ r = r' → K 0 M4)) (by omega) ht5 hI fin,
      fun _ => ⟨v1, v2, q_Ci.mono (call_cell (K := fun r r' M4 => (r = r' → q_Ex X d 159 18 [some (.ref 1003), some (.ref 0), some (.ref 97), some (.int (nI (4 * t) + 4))] [] M4 (q_ri K)) ∧ (¬ r = r' → K 0 M4)) (by omega) ht5 hI fin) (fun _ _ z => ⟨v1, v2, z⟩)⟩,
      fun _ => ⟨v1, q_Ci.mono (call_law (K := fun r r' M4 => (r = r' → q_Ex X d 159 18 [some (.ref 1003), some (.ref 0), some (.ref 97), some (.int (nI (4 * t) + 4))] [] M4 (q_ri K)) ∧ (¬ r = r' → K 0 M4)) (by omega) ht5 hI fin) (fun _ _ z => ⟨v1, z⟩)⟩,
      fun _ => ⟨v1, q_Ci.mono (call_set (K := fun r r' M4 => (r = r' → q_Ex X d 159 18 [some (.ref 1003), some (.ref 0), some (.ref 97), some (.int (nI (4 * t) + 4))] [] M4 (q_ri K)) ∧ (¬ r = r' → K 0 M4)) (by omega) ht5 hI fin) (fun _ _ z => ⟨v1, z⟩)⟩,
      fun _ => ⟨v1, v2, q_Ci.mono (call_alone (K := fun r r' M4 => (r = r' → q_Ex X d 159 18 [some (.ref 1003), some (.ref 0), some (.ref 97), some (.int (nI (4 * t) + 4))] [] M4 (q_ri K)) ∧ (¬ r = r' → K 0 M4)) (by omega) ht5 hI fin) (fun _ _ z => ⟨v1, v2, z⟩)⟩,
      fun _ => call_all (K := fun r r' M4 => (r = r' → q_Ex X d 159 18 [some (.ref 1003), some (.ref 0), some (.ref 97), some (.int (nI (4 * t) + 4))] [] M4 (q_ri K)) ∧ (¬ r = r' → K 0 M4)) (by omega) ht5 hI fin,
      fun _ => call_signed (K := fun r r' M4 => (r = r' → q_Ex X d 159 18 [some (.ref 1003), some (.ref 0), some (.ref 97), some (.int (nI (4 * t) + 4))] [] M4 (q_ri K)) ∧ (¬ r = r' → K 0 M4)) (by omega) ht5 hI fin,
      fun _ => call_holds (K := fun r r' M4 => (r = r' → q_Ex X d 159 18 [some (.ref 1003), some (.ref 0), some (.ref 97), some (.int (nI (4 * t) + 4))] [] M4 (q_ri K)) ∧ (¬ r = r' → K 0 M4)) (by omega) ht5 hI fin,
      fun _ => ⟨v1, q_Ci.mono (call_by (K := fun r r' M4 => (r = r' → q_Ex X d 159 18 [some (.ref 1003), some (.ref 0), some (.ref 97), some (.int (nI (4 * t) + 4))] [] M4 (q_ri K)) ∧ (¬ r = r' → K 0 M4)) (by omega) ht5 hI fin) (fun _ _ z => ⟨v1, z⟩)⟩,
      fun _ => call_cheap (K := fun r r' M4 => (r = r' → q_Ex X d 159 18 [some (.ref 1003), some (.ref 0), some (.ref 97), some (.int (nI (4 * t) + 4))] [] M4 (q_ri K)) ∧ (¬ r = r' → K 0 M4)) (by omega) ht5 hI fin,
      fun _ => ⟨v1, v2, q_Ci.mono (call_used (K := fun r r' M4 => (r = r' → q_Ex X d 159 18 [some (.ref 1003), some (.ref 0), some (.ref 97), some (.int (nI (4 * t) + 4))] [] M4 (q_ri K)) ∧ (¬ r = r' → K 0 M4)) (by omega) ht5 hI fin) (fun _ _ z => ⟨v1, v2, z⟩)⟩,
      fun _ => ⟨v1, v2, v3, q_Ci.mono (call_rank (K := fun r r' M4 => (r = r' → q_Ex X d 159 18 [some (.ref 1003), some (.ref 0), some (.ref 97), some (.int (nI (4 * t) + 4))] [] M4 (q_ri K)) ∧ (¬ r = r' → K 0 M4)) (by omega) ht5 hI fin) (fun _ _ z => ⟨v1, v2, v3, z⟩)⟩,
      fun _ => ⟨v1, v2, v3, q_Ci.mono (call_drawn (K := fun r r' M4 => (r = r' → q_Ex X d 159 18 [some (.ref 1003), some (.ref 0), some (.ref 97), some (.int (nI (4 * t) + 4))] [] M4 (q_ri K)) ∧ (¬ r = r' → K 0 M4)) (by omega) ht5 hI fin) (fun _ _ z => ⟨v1, v2, v3, z⟩)⟩,
      fun _ => call_most (K := fun r r' M4 => (r = r' → q_Ex X d 159 18 [some (.ref 1003), some (.ref 0), some (.ref 97), some (.int (nI (4 * t) + 4))] [] M4 (q_ri K)) ∧ (¬ r = r' → K 0 M4)) (by omega) ht5 hI fin,
      fun _ => call_shuts (K := fun r r' M4 => (r = r' → q_Ex X d 159 18 [some (.ref 1003), some (.ref 0), some (.ref 97), some (.int (nI (4 * t) + 4))] [] M4 (q_ri K)) ∧ (¬ r = r' → K 0 M4)) (by omega) ht5 hI fin,
      fun _ => ⟨v1, q_Ci.mono (call_seen (K := fun r r' M4 => (r = r' → q_Ex X d 159 18 [some (.ref 1003), some (.ref 0), some (.ref 97), some (.int (nI (4 * t) + 4))] [] M4 (q_ri K)) ∧ (¬ r = r' → K 0 M4)) (by omega) ht5 hI fin) (fun _ _ z => ⟨v1, z⟩)⟩,
      fun _ => call_fits (K := fun r r' M4 => (r = r' → q_Ex X d 159 18 [some (.ref 1003), some (.ref 0), some (.ref 97), some (.int (nI (4 * t) + 4))] [] M4 (q_ri K)) ∧ (¬ r = r' → K 0 M4)) (by omega) ht5 hI fin,
      fun _ => ⟨v1, q_Ci.mono (call_who (K := fun r r' M4 => (r = r' → q_Ex X d 159 18 [some (.ref 1003), some (.ref 0), some (.ref 97), some (.int (nI (4 * t) + 4))] [] M4 (q_ri K)) ∧ (¬ r = r' → K 0 M4)) (by omega) ht5 hI fin) (fun _ _ z => ⟨v1, z⟩)⟩,
      fun _ => ⟨v1, q_Ci.mono (call_lost (K := fun r r' M4 => (r = r' → q_Ex X d 159 18 [some (.ref 1003), some (.ref 0), some (.ref 97), some (.int (nI (4 * t) + 4))] [] M4 (q_ri K)) ∧ (¬ r = r' → K 0 M4)) (by omega) ht5 hI fin) (fun _ _ z => ⟨v1, z⟩)⟩,
      fun _ => call_few (K := fun r r' M4 => (r = r' → q_Ex X d 159 18 [some (.ref 1003), some (.ref 0), some (.ref 97), some (.int (nI (4 * t) + 4))] [] M4 (q_ri K)) ∧ (¬ r = r' → K 0 M4)) (by omega) ht5 hI fin,
      fun _ => ⟨v1, v2, v3, q_Ci.mono (call_boxes (K := fun r r' M4 => (r = r' → q_Ex X d 159 18 [some (.ref 1003), some (.ref 0), some (.ref 97), some (.int (nI (4 * t) + 4))] [] M4 (q_ri K)) ∧ (¬ r = r' → K 0 M4)) (by omega) ht5 hI fin) (fun _ _ z => ⟨v1, v2, v3, z⟩)⟩,
      fun _ => ⟨v1, v2, q_Ci.mono (call_step (K := fun r r' M4 => (r = r' → q_Ex X d 159 18 [some (.ref 1003), some (.ref 0), some (.ref 97), some (.int (nI (4 * t) + 4))] [] M4 (q_ri K)) ∧ (¬ r = r' → K 0 M4)) (by omega) ht5 hI fin) (fun _ _ z => ⟨v1, v2, z⟩)⟩,
      fun _ => call_judge (K := fun r r' M4 => (r = r' → q_Ex X d 159 18 [some (.ref 1003), some (.ref 0), some (.ref 97), some (.int (nI (4 * t) + 4))] [] M4 (q_ri K)) ∧ (¬ r = r' → K 0 M4)) (by omega) ht5 hI fin,
      fun _ => call_clear (K := fun r r' M4 => (r = r' → q_Ex X d 159 18 [some (.ref 1003), some (.ref 0), some (.ref 97), some (.int (nI (4 * t) + 4))] [] M4 (q_ri K)) ∧ (¬ r = r' → K 0 M4)) (by omega) ht5 hI fin,
      fun _ => call_image (K := fun r r' M4 => (r = r' → q_Ex X d 159 18 [some (.ref 1003), some (.ref 0), some (.ref 97), some (.int (nI (4 * t) + 4))] [] M4 (q_ri K)) ∧ (¬ r = r' → K 0 M4)) (by omega) ht5 hI fin,
      fun _ => call_on (K := fun r r' M4 => (r = r' → q_Ex X d 159 18 [some (.ref 1003), some (.ref 0), some (.ref 97), some (.int (nI (4 * t) + 4))] [] M4 (q_ri K)) ∧ (¬ r = r' → K 0 M4)) (by omega) ht5 hI fin,
      fun _ => ⟨v1, q_Ci.mono (call_count (K := fun r r' M4 => (r = r' → q_Ex X d 159 18 [some (.ref 1003), some (.ref 0), some (.ref 97), some (.int (nI (4 * t) + 4))] [] M4 (q_ri K)) ∧ (¬ r = r' → K 0 M4)) (by omega) ht5 hI fin) (fun _ _ z => ⟨v1, z⟩)⟩,
      fun _ => nx M (hI.up ht5)⟩
