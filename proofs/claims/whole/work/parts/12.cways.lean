
/-! bits -/
theorem n_and (a b : Nat) : nI a &&& nI b = nI (a &&& b) := by
  apply Int32.toBitVec_inj.1
  show BitVec.ofNat 32 a &&& BitVec.ofNat 32 b = BitVec.ofNat 32 (a &&& b)
  apply BitVec.eq_of_getLsbD_eq
  intro i hi
  simp [hi]
theorem n_or (a b : Nat) : nI a ||| nI b = nI (a ||| b) := by
  apply Int32.toBitVec_inj.1
  show BitVec.ofNat 32 a ||| BitVec.ofNat 32 b = BitVec.ofNat 32 (a ||| b)
  apply BitVec.eq_of_getLsbD_eq
  intro i hi
  simp [hi]
theorem n_sh : ∀ c, c < 31 → (1 : Int32) <<< (nI c &&& 31) = nI (2 ^ c) := by decide +kernel
theorem n_sl : ∀ n, n < 32 → ((nI n &&& 31).toBitVec.smod 32).toNat = n := by decide +kernel
theorem n_bit {a c : Nat} (ha : a < 2 ^ 31) (hc : c < 32) : ((nI a >>> (nI c &&& 31)) &&& 1) = nI (a / 2 ^ c % 2) := by
  rw [pk_shrN ha _ c (n_sl c hc)]
  have h2 : a / 2 ^ c ≤ a := Nat.div_le_self _ _
  exact pk_andN (n := a / 2 ^ c) (by omega) (m := 1) 1 rfl
theorem n_bit0 {a c : Nat} (ha : a < 2 ^ 31) (hc : c < 32) : ((nI a >>> (nI c &&& 31)) &&& 1) = 0 ↔ a.testBit c = false := by
  rw [n_bit ha hc, Nat.testBit_eq_decide_div_mod_eq]
  have h := Nat.mod_lt (a / 2 ^ c) (show 0 < 2 by decide)
  rw [show (0 : Int32) = nI 0 from rfl, q_eq (by omega) (by omega)]
  simp
theorem g_bits_31 {p : List Nat} {N : Nat} (h : ∀ c ∈ p, c < N) (hN : N ≤ 30) : g_bits p < 2 ^ 30 := Nat.lt_of_lt_of_le (g_bits_lt h) (Nat.pow_le_pow_right (by decide) hN)
/-! the class's ways -/
def w_at (M : q_M) (iSz iC iWl dr : Nat) (nu : Nat → Nat) (L : List (List Nat)) : Prop := M iSz dr = nI L.length ∧ ∀ (i : Nat) (p : List Nat), L[i]? = some p → M (iC + dr) i = nI (g_bits p) ∧ M (iWl + dr) i = nI (nu (p.getLastD 0))
def w_fr (M M' : q_M) (iSz iC iWl dr : Nat) : Prop := (∀ k, k ≠ iSz → k ≠ iC + dr → k ≠ iWl + dr → M' k = M k) ∧ ∀ j, j ≠ dr → M' iSz j = M iSz j
theorem w_fr.rf (M : q_M) (iSz iC iWl dr : Nat) : w_fr M M iSz iC iWl dr := ⟨fun _ _ _ _ => rfl, fun _ _ => rfl⟩
theorem w_fr.tr {A B D : q_M} {iSz iC iWl dr : Nat} (h : w_fr A B iSz iC iWl dr) (h2 : w_fr B D iSz iC iWl dr) : w_fr A D iSz iC iWl dr := ⟨fun k a b c => (h2.1 k a b c).trans (h.1 k a b c), fun j hj => (h2.2 j hj).trans (h.2 j hj)⟩
theorem w_push {M : q_M} {iSz iC iWl dr : Nat} {nu : Nat → Nat} {L : List (List Nat)} (p : List Nat) (h : w_at M iSz iC iWl dr nu L) (h1 : iC + dr ≠ iSz) (h2 : iWl + dr ≠ iSz) (h3 : iC + dr ≠ iWl + dr) :
    w_at (q_set (q_set (q_set M (iC + dr) L.length (nI (g_bits p))) (iWl + dr) L.length (nI (nu (p.getLastD 0)))) iSz dr (nI (L.length + 1))) iSz iC iWl dr nu (L ++ [p]) ∧
    w_fr M (q_set (q_set (q_set M (iC + dr) L.length (nI (g_bits p))) (iWl + dr) L.length (nI (nu (p.getLastD 0)))) iSz dr (nI (L.length + 1))) iSz iC iWl dr := by
  refine ⟨⟨by simp [q_set_ap], fun i q hq => ?_⟩, fun k a b c => ?_, fun j hj => ?_⟩
  · by_cases hi : i < L.length
    · rw [List.getElem?_append_left hi] at hq
      obtain ⟨e1, e2⟩ := h.2 i q hq
      constructor
      · simp only [q_set_ap]
        rw [if_neg (by intro g; exact h1 g.1), if_neg (by intro g; exact h3 g.1), if_neg (by omega)]; exact e1
      · simp only [q_set_ap]
        rw [if_neg (by intro g; exact h2 g.1), if_neg (by omega), if_neg (by intro g; exact h3 g.1.symm)]; exact e2
    · have hi2 : i = L.length := by
        have := (List.getElem?_eq_some_iff.mp hq).1
        simp at this; omega
      subst hi2
      simp at hq
      subst hq
      constructor
      · simp only [q_set_ap]
        rw [if_neg (by intro g; exact h1 g.1), if_neg (by intro g; exact h3 g.1), if_pos (by simp)]
      · simp only [q_set_ap]
        rw [if_neg (by intro g; exact h2 g.1), if_pos (by simp)]
  · rw [q_set_n a, q_set_n c, q_set_n b]
  · simp only [q_set_ap]
    rw [if_neg (by omega), if_neg (by intro g; exact h2 g.1.symm), if_neg (by intro g; exact h1 g.1.symm)]
theorem g_kdE_1 (m : Nat) (kd nu : Nat → Nat) (c : Nat) : g_kdE m kd nu c = 1 ↔ kd c = 1 := by
  unfold g_kdE
  split
  · constructor
    · intro h; omega
    · intro h; omega
  · exact Iff.rfl
theorem g_nx_E (R C m : Nat) (kd nu : Nat → Nat) (c st : Nat) : g_nx R C (g_kdE m kd nu) c st = g_nx R C kd c st := by
  unfold g_nx
  simp only [ne_eq, g_kdE_1]
def g_ext (R C : Nat) (kd : Nat → Nat) (f c : Nat) (pre : List Nat) : List (List Nat) := (g_o (g_nx R C kd c 0) (g_pth R C kd f) ++ g_o (g_nx R C kd c 1) (g_pth R C kd f)).map (fun p => pre ++ c :: p)
section CWays
variable {X : Nat × (Nat → Int32)} {R C n : Nat} {kd co nu dc wc : Nat → Nat}

theorem c_note44 {d dr b wv k : Nat} {M : q_M} {K : q_M → Prop} (hdr : dr < 3) (hk : M 45 dr = nI k) (hk2 : k < 126) (h : K (q_set (q_set (q_set M (47 + dr) k (nI b)) (51 + dr) k (nI wv)) 45 dr (nI (k + 1)))) : q_Cv X d 43 [.ref 44, .int (nI dr), .int (nI b), .int (nI wv)] M K := by
  refine vc43_44 ?_
  rw [q_cn (by omega), hk, q_cn (by omega), nI_1]
  exact ⟨q_vi hdr (by decide), fun g => absurd ((q_le (a := 126) (by omega) (by omega)).mp g) (by omega), fun _ => ⟨q_vi hdr (by decide), q_vi hk2 (by decide), q_vi hdr (by decide), q_vi hk2 (by decide), q_vi hdr (by decide), h⟩⟩
theorem c_goOn44 (hw : b_wf R C n kd co nu dc wc) {m dr : Nat} (hm : m ≤ n) (hdr : dr < 3) : ∀ (f c : Nat) (pre : List Nat) (k d : Nat) (M : q_M) (L : List (List Nat)) (K : q_M → Prop), c < R * C → g_far R C c ≤ f → k + f ≤ 10 → f + 2 ≤ d → b_now M R C n kd co nu dc wc → M 44 1 = nI m → (∀ x ∈ pre, x < R * C) → w_at M 45 47 51 dr nu L → (L ++ g_ext R C (g_kdE m kd nu) f c pre).length ≤ 126 →
    (∀ M', w_fr M M' 45 47 51 dr → w_at M' 45 47 51 dr nu (L ++ g_ext R C (g_kdE m kd nu) f c pre) → K M') → q_Cv X d 42 [.ref 44, .int (nI dr), .int (nI c), .int (nI (g_bits pre)), .int (nI k)] M K := by
  intro f
  induction f using Nat.strongRecOn with
  | _ f ih =>
  intro c pre k d M L K hc hfar hk hd hb hm1 hpre hL hlen hK
  have hRC := b_RC hw
  obtain ⟨hR2, hC2⟩ := b_Cpos hw hc
  have hn3 := hw.2.2.1
  have hpc : ∀ x ∈ pre ++ [c], x < R * C := fun x hx => by
    rcases List.mem_append.mp hx with h | h
    · exact hpre x h
    · simp at h; rw [h]; exact hc
  refine vc42_44 ?_
  refine ⟨fun g => absurd g (q_nlt0 (by omega)), fun _ => ⟨fun _ => ?_, fun g => absurd ((q_le (b := 10) (by omega) (by omega)).mpr (by omega)) g⟩⟩
  have hbits : nI (g_bits pre) ||| ((1 : Int32) <<< (nI c &&& 31)) = nI (g_bits (pre ++ [c])) := by
    rw [n_sh c (by omega), n_or, g_bits_app]
    simp [g_bits]
  rw [hbits]
  have one : ∀ (st : Nat) (M1 : q_M) (L1 : List (List Nat)), st < 2 → b_now M1 R C n kd co nu dc wc → M1 44 1 = nI m → w_at M1 45 47 51 dr nu L1 → (L1 ++ (g_o (g_nx R C (g_kdE m kd nu) c st) (g_pth R C (g_kdE m kd nu) f)).map (fun p => pre ++ c :: p)).length ≤ 126 →
      (∀ M', w_fr M1 M' 45 47 51 dr → w_at M' 45 47 51 dr nu (L1 ++ (g_o (g_nx R C (g_kdE m kd nu) c st) (g_pth R C (g_kdE m kd nu) f)).map (fun p => pre ++ c :: p)) → q_Ex X d 42 22 [some (.ref 44), some (.int (nI dr)), some (.int (nI c)), none, some (.int (nI k)), some (.int (nI (g_bits (pre ++ [c])))), some (.int (nI (st + 1))), none, none] [] M' (q_rn K)) →
      q_Ex X d 42 22 [some (.ref 44), some (.int (nI dr)), some (.int (nI c)), none, some (.int (nI k)), some (.int (nI (g_bits (pre ++ [c])))), some (.int (nI st)), none, none] [] M1 (q_rn K) := by
    intro st M1 L1 hst hb1 hm2 hL1 hlen1 hK1
    refine vc42_44_p22 (by omega) ⟨fun g => absurd ((q_lt (a := 1) (by omega) (by omega)).mp g) (by omega), fun _ => ?_⟩
    refine c_onward hw (by omega) hb1 hc hst ?_
    rw [g_nx_E] at hlen1 hK1
    rw [nI_1, nI_1]
    cases hn : g_nx R C kd c st with
    | none =>
      rw [hn] at hK1
      refine ⟨fun _ => hK1 M1 (w_fr.rf _ _ _ _ _) (by simpa [g_o] using hL1), fun g => absurd (show (-1 : Int32) < 0 by decide) g⟩
    | some t =>
      rw [hn] at hlen1 hK1
      rw [show g_oi (some t) = nI t from rfl]
      obtain ⟨ht, hft⟩ := g_nx_far (by omega) hc hn
      have ht30 : t < 30 := by omega
      have hv := q_vi (N := 30) ht30 (by decide)
      obtain ⟨f', rfl⟩ : ∃ f', f = f' + 1 := ⟨f - 1, by omega⟩
      obtain ⟨hkt, -, hnt⟩ := hb1.2.2.2.2.2.1 t ht
      obtain ⟨hk3, -, -, hnu⟩ := hw.2.2.2.2.1 t ht
      have hk1 : kd t ≠ 1 := by
        rcases (show st = 0 ∨ st = 1 by omega) with rfl | rfl
        · exact (g_nx0 hn).2.2
        · exact (g_nx1 hn).2.2
      have hK2 : ∀ M', w_fr M1 M' 45 47 51 dr → w_at M' 45 47 51 dr nu (L1 ++ (g_pth R C (g_kdE m kd nu) (f' + 1) t).map (fun p => pre ++ c :: p)) → q_Ex X d 42 22 [some (.ref 44), some (.int (nI dr)), some (.int (nI c)), none, some (.int (nI k)), some (.int (nI (g_bits (pre ++ [c])))), some (.int (nI (st + 1))), none, none] [] M' (q_rn K) := hK1
      have hlen2 : (L1 ++ (g_pth R C (g_kdE m kd nu) (f' + 1) t).map (fun p => pre ++ c :: p)).length ≤ 126 := hlen1
      have rec_ : g_kdE m kd nu t = 0 → q_Cv X (d - 1) 42 [.ref 44, .int (nI dr), .int (nI t), .int (nI (g_bits (pre ++ [c]))), .int (nI (k + 1))] M1 (fun M6 => q_Ex X d 42 22 [some (.ref 44), some (.int (nI dr)), some (.int (nI c)), none, some (.int (nI k)), some (.int (nI (g_bits (pre ++ [c])))), some (.int (nI (st + 1))), none, none] [] M6 (q_rn K)) := by
        intro h0
        have e1 : (g_pth R C (g_kdE m kd nu) (f' + 1) t).map (fun p => pre ++ c :: p) = g_ext R C (g_kdE m kd nu) f' t (pre ++ [c]) := by
          unfold g_pth g_ext
          rw [if_neg (by rw [h0]; decide), if_neg (by rw [h0]; decide), List.map_map]
          congr 1
          funext p
          simp
        rw [e1] at hK2 hlen2
        exact ih f' (by omega) t (pre ++ [c]) (k + 1) (d - 1) M1 L1 _ ht (by omega) (by omega) (by omega) hb1 hm2 hpc hL1 hlen2 hK2
      refine ⟨fun g => absurd g (q_nlt0 (by omega)), fun _ => ⟨hv, ?_⟩⟩
      rw [q_cn (show t < 2 ^ 31 by omega), hnt, hm2, hkt]
      by_cases hlow : kd t < 2
      · have e0 : g_kdE m kd nu t = 0 := by unfold g_kdE; rw [if_neg (by omega)]; omega
        unfold g_numb
        rw [if_pos hlow]
        exact ⟨fun _ => rec_ e0, fun g => absurd (show (-9 : Int32) < 0 by decide) g⟩
      · have hnn := hnu (by omega)
        unfold g_numb
        rw [if_neg hlow]
        refine ⟨fun g => absurd g (q_nlt0 (by omega)), fun _ => ⟨hv, ?_⟩⟩
        rw [q_lt (by omega) (by omega)]
        refine ⟨fun g => ?_, fun g => rec_ (by unfold g_kdE; rw [if_pos ⟨by omega, by omega⟩])⟩
        have eE : g_kdE m kd nu t = kd t := by unfold g_kdE; rw [if_neg (by omega)]
        refine ⟨hv, fun g3 => ?_, fun g3 => ⟨hv, ?_⟩⟩
        · have e2 : kd t = 2 := by
            rcases (show kd t = 2 ∨ kd t = 3 by omega) with e | e
            · exact e
            · exact absurd (by rw [e]; rfl) g3
          have e1 : g_pth R C (g_kdE m kd nu) (f' + 1) t = [] := by unfold g_pth; rw [eE, if_neg (by omega), if_pos e2]
          rw [e1] at hK2
          exact hK2 M1 (w_fr.rf _ _ _ _ _) (by simpa using hL1)
        · have e3 : kd t = 3 := (q_eq (b := 3) (by omega) (by omega)).mp g3
          have e1 : g_pth R C (g_kdE m kd nu) (f' + 1) t = [[t]] := by unfold g_pth; rw [eE, if_pos e3]
          rw [e1] at hK2 hlen2
          have eb : nI (g_bits (pre ++ [c])) ||| ((1 : Int32) <<< (nI t &&& 31)) = nI (g_bits (pre ++ [c, t])) := by
            rw [n_sh t (by omega), n_or, g_bits_app, g_bits_app]
            simp [g_bits, Nat.or_assoc]
          rw [eb]
          have hp := w_push (pre ++ [c, t]) hL1 (iC := 47) (iWl := 51) (iSz := 45) (by omega) (by omega) (by omega)
          have el : (pre ++ [c, t]).getLastD 0 = t := by simp [List.getLastD_eq_getLast?]
          rw [el] at hp
          refine c_note44 hdr hL1.1 (by simp at hlen2; omega) ?_
          exact hK2 _ hp.2 (by simpa using hp.1)
  have hlen' : (L ++ ((g_o (g_nx R C (g_kdE m kd nu) c 0) (g_pth R C (g_kdE m kd nu) f)).map (fun p => pre ++ c :: p) ++ (g_o (g_nx R C (g_kdE m kd nu) c 1) (g_pth R C (g_kdE m kd nu) f)).map (fun p => pre ++ c :: p))).length ≤ 126 := by
    rw [← List.map_append]; exact hlen
  refine one 0 M L (by decide) hb hm1 hL (by simp only [List.length_append] at hlen' ⊢; omega) (fun M1 hf1 hL1 => ?_)
  have hb1 : b_now M1 R C n kd co nu dc wc := hb.eq (fun k h1 h2 => hf1.1 k (by omega) (by omega) (by omega))
  have hm2 : M1 44 1 = nI m := by rw [hf1.1 44 (by omega) (by omega) (by omega)]; exact hm1
  refine one 1 M1 _ (by decide) hb1 hm2 hL1 (by rw [List.append_assoc]; exact hlen') (fun M2 hf2 hL2 => ?_)
  refine vc42_44_p22 (by omega) ⟨fun _ => ?_, fun g => absurd (show (1 : Int32) < nI 2 by decide) g⟩
  refine hK M2 (hf1.tr hf2) ?_
  unfold g_ext
  rw [List.map_append, ← List.append_assoc]
  exact hL2
/-- all ways of the first m doors are there -/
def c_wys44 (M : q_M) (R C m : Nat) (kd nu dc : Nat → Nat) : Prop := M 44 1 = nI m ∧ ∀ dr, dr < m → w_at M 45 47 51 dr nu (g_wy R C (g_kdE m kd nu) (dc dr))
theorem c_fill44 (hw : b_wf R C n kd co nu dc wc) {m d : Nat} {M : q_M} {K : q_M → Prop} (hm : m ≤ n) (hd : 14 ≤ d) (hb : b_now M R C n kd co nu dc wc) (hK : ∀ M', (∀ k, k < 44 ∨ 44 + 10 ≤ k → M' k = M k) → c_wys44 M' R C m kd nu dc → K M') : q_Cv X d 41 [.ref 44, .int (nI m)] M K := by
  have hn3 := hw.2.2.1
  refine vc41_44 (by omega) ?_
  rw [hb.2.2.2.2.1]
  have e1 : (if nI n < nI m then nI n else nI m) = nI m := by
    split
    next g => rw [q_lt (by omega) (by omega)] at g; omega
    next => rfl
  rw [e1]
  have loop : ∀ (j i : Nat) (M1 : q_M), i + j = m → (∀ k, k < 44 ∨ 44 + 10 ≤ k → M1 k = M k) → M1 44 1 = nI m → (∀ dr, dr < i → w_at M1 45 47 51 dr nu (g_wy R C (g_kdE m kd nu) (dc dr))) → q_Ex X d 41 17 [some (.ref 44), none, some (.int (nI i))] [] M1 (q_rn K) := by
    intro j
    induction j with
    | zero =>
      intro i M1 hi hf hm1 hL
      refine vc41_44_p17 (by omega) ⟨fun _ => hK M1 hf ⟨hm1, fun dr hdr => hL dr (by omega)⟩, fun g => absurd ?_ g⟩
      rw [hm1, q_le (by omega) (by omega)]; omega
    | succ j ih =>
      intro i M1 hi hf hm1 hL
      refine vc41_44_p17 (by omega) ⟨fun g => ?_, fun g => ⟨q_vi (by omega) (by decide), ?_⟩⟩
      · rw [hm1, q_le (by omega) (by omega)] at g; omega
      · have hb1 : b_now (q_set M1 45 i 0) R C n kd co nu dc wc := hb.eq (fun k h1 h2 => by rw [q_set_n (by omega)]; exact hf k (by omega))
        rw [q_cn (by omega), nI_1]
        refine c_cellOfDoor hw (by omega) hb1 (by omega) ?_
        have hdc := (hw.2.2.2.2.2.1 i (by omega)).1
        obtain ⟨hR2, hC2⟩ := b_Cpos hw hdc
        have hE : g_ext R C (g_kdE m kd nu) 10 (dc i) [] = g_wy R C (g_kdE m kd nu) (dc i) := by unfold g_ext g_wy; rfl
        have hfar := g_far_le (c := dc i) hw.1 hw.2.1
        refine c_goOn44 hw (m := m) hm (dr := i) (by omega) 10 (dc i) [] 0 (d - 1) _ [] _ hdc (by omega) (by omega) (by omega) hb1 (by rw [q_set_n (by decide)]; exact hm1) (fun x hx => by simp at hx) ⟨by simp [q_set_ap, nI_0], fun i p hp => by simp at hp⟩ (by
          rw [hE]; simpa using g_wy_len (by omega) hw.1 hw.2.1 hdc) (fun M2 hf2 hL2 => ?_)
        rw [hE, List.nil_append] at hL2
        refine ih (i + 1) M2 (by omega) (fun k hk => ?_) ?_ (fun dr hdr => ?_)
        · rw [hf2.1 k (by omega) (by omega) (by omega), q_set_n (by omega)]; exact hf k hk
        · rw [hf2.1 44 (by omega) (by omega) (by omega), q_set_n (by decide)]; exact hm1
        · by_cases e : dr = i
          · subst e; exact hL2
          · have h0 := hL dr (by omega)
            refine ⟨?_, fun t p hp => ?_⟩
            · rw [hf2.2 dr e, q_set_ap, if_neg (by omega)]; exact h0.1
            · obtain ⟨x1, x2⟩ := h0.2 t p hp
              rw [hf2.1 (47 + dr) (by omega) (by omega) (by omega), hf2.1 (51 + dr) (by omega) (by omega) (by omega), q_set_n (by omega), q_set_n (by omega)]
              exact ⟨x1, x2⟩
  exact loop m 0 _ (by omega) (fun k hk => q_set_n (by omega)) (by simp [q_set_ap]) (fun dr h => by omega)

theorem c_note54 {d dr b wv k : Nat} {M : q_M} {K : q_M → Prop} (hdr : dr < 3) (hk : M 55 dr = nI k) (hk2 : k < 126) (h : K (q_set (q_set (q_set M (57 + dr) k (nI b)) (61 + dr) k (nI wv)) 55 dr (nI (k + 1)))) : q_Cv X d 43 [.ref 54, .int (nI dr), .int (nI b), .int (nI wv)] M K := by
  refine vc43_54 ?_
  rw [q_cn (by omega), hk, q_cn (by omega), nI_1]
  exact ⟨q_vi hdr (by decide), fun g => absurd ((q_le (a := 126) (by omega) (by omega)).mp g) (by omega), fun _ => ⟨q_vi hdr (by decide), q_vi hk2 (by decide), q_vi hdr (by decide), q_vi hk2 (by decide), q_vi hdr (by decide), h⟩⟩
theorem c_goOn54 (hw : b_wf R C n kd co nu dc wc) {m dr : Nat} (hm : m ≤ n) (hdr : dr < 3) : ∀ (f c : Nat) (pre : List Nat) (k d : Nat) (M : q_M) (L : List (List Nat)) (K : q_M → Prop), c < R * C → g_far R C c ≤ f → k + f ≤ 10 → f + 2 ≤ d → b_now M R C n kd co nu dc wc → M 54 1 = nI m → (∀ x ∈ pre, x < R * C) → w_at M 55 57 61 dr nu L → (L ++ g_ext R C (g_kdE m kd nu) f c pre).length ≤ 126 →
    (∀ M', w_fr M M' 55 57 61 dr → w_at M' 55 57 61 dr nu (L ++ g_ext R C (g_kdE m kd nu) f c pre) → K M') → q_Cv X d 42 [.ref 54, .int (nI dr), .int (nI c), .int (nI (g_bits pre)), .int (nI k)] M K := by
  intro f
  induction f using Nat.strongRecOn with
  | _ f ih =>
  intro c pre k d M L K hc hfar hk hd hb hm1 hpre hL hlen hK
  have hRC := b_RC hw
  obtain ⟨hR2, hC2⟩ := b_Cpos hw hc
  have hn3 := hw.2.2.1
  have hpc : ∀ x ∈ pre ++ [c], x < R * C := fun x hx => by
    rcases List.mem_append.mp hx with h | h
    · exact hpre x h
    · simp at h; rw [h]; exact hc
  refine vc42_54 ?_
  refine ⟨fun g => absurd g (q_nlt0 (by omega)), fun _ => ⟨fun _ => ?_, fun g => absurd ((q_le (b := 10) (by omega) (by omega)).mpr (by omega)) g⟩⟩
  have hbits : nI (g_bits pre) ||| ((1 : Int32) <<< (nI c &&& 31)) = nI (g_bits (pre ++ [c])) := by
    rw [n_sh c (by omega), n_or, g_bits_app]
    simp [g_bits]
  rw [hbits]
  have one : ∀ (st : Nat) (M1 : q_M) (L1 : List (List Nat)), st < 2 → b_now M1 R C n kd co nu dc wc → M1 54 1 = nI m → w_at M1 55 57 61 dr nu L1 → (L1 ++ (g_o (g_nx R C (g_kdE m kd nu) c st) (g_pth R C (g_kdE m kd nu) f)).map (fun p => pre ++ c :: p)).length ≤ 126 →
      (∀ M', w_fr M1 M' 55 57 61 dr → w_at M' 55 57 61 dr nu (L1 ++ (g_o (g_nx R C (g_kdE m kd nu) c st) (g_pth R C (g_kdE m kd nu) f)).map (fun p => pre ++ c :: p)) → q_Ex X d 42 22 [some (.ref 54), some (.int (nI dr)), some (.int (nI c)), none, some (.int (nI k)), some (.int (nI (g_bits (pre ++ [c])))), some (.int (nI (st + 1))), none, none] [] M' (q_rn K)) →
      q_Ex X d 42 22 [some (.ref 54), some (.int (nI dr)), some (.int (nI c)), none, some (.int (nI k)), some (.int (nI (g_bits (pre ++ [c])))), some (.int (nI st)), none, none] [] M1 (q_rn K) := by
    intro st M1 L1 hst hb1 hm2 hL1 hlen1 hK1
    refine vc42_54_p22 (by omega) ⟨fun g => absurd ((q_lt (a := 1) (by omega) (by omega)).mp g) (by omega), fun _ => ?_⟩
    refine c_onward hw (by omega) hb1 hc hst ?_
    rw [g_nx_E] at hlen1 hK1
    rw [nI_1, nI_1]
    cases hn : g_nx R C kd c st with
    | none =>
      rw [hn] at hK1
      refine ⟨fun _ => hK1 M1 (w_fr.rf _ _ _ _ _) (by simpa [g_o] using hL1), fun g => absurd (show (-1 : Int32) < 0 by decide) g⟩
    | some t =>
      rw [hn] at hlen1 hK1
      rw [show g_oi (some t) = nI t from rfl]
      obtain ⟨ht, hft⟩ := g_nx_far (by omega) hc hn
      have ht30 : t < 30 := by omega
      have hv := q_vi (N := 30) ht30 (by decide)
      obtain ⟨f', rfl⟩ : ∃ f', f = f' + 1 := ⟨f - 1, by omega⟩
      obtain ⟨hkt, -, hnt⟩ := hb1.2.2.2.2.2.1 t ht
      obtain ⟨hk3, -, -, hnu⟩ := hw.2.2.2.2.1 t ht
      have hk1 : kd t ≠ 1 := by
        rcases (show st = 0 ∨ st = 1 by omega) with rfl | rfl
        · exact (g_nx0 hn).2.2
        · exact (g_nx1 hn).2.2
      have hK2 : ∀ M', w_fr M1 M' 55 57 61 dr → w_at M' 55 57 61 dr nu (L1 ++ (g_pth R C (g_kdE m kd nu) (f' + 1) t).map (fun p => pre ++ c :: p)) → q_Ex X d 42 22 [some (.ref 54), some (.int (nI dr)), some (.int (nI c)), none, some (.int (nI k)), some (.int (nI (g_bits (pre ++ [c])))), some (.int (nI (st + 1))), none, none] [] M' (q_rn K) := hK1
      have hlen2 : (L1 ++ (g_pth R C (g_kdE m kd nu) (f' + 1) t).map (fun p => pre ++ c :: p)).length ≤ 126 := hlen1
      have rec_ : g_kdE m kd nu t = 0 → q_Cv X (d - 1) 42 [.ref 54, .int (nI dr), .int (nI t), .int (nI (g_bits (pre ++ [c]))), .int (nI (k + 1))] M1 (fun M6 => q_Ex X d 42 22 [some (.ref 54), some (.int (nI dr)), some (.int (nI c)), none, some (.int (nI k)), some (.int (nI (g_bits (pre ++ [c])))), some (.int (nI (st + 1))), none, none] [] M6 (q_rn K)) := by
        intro h0
        have e1 : (g_pth R C (g_kdE m kd nu) (f' + 1) t).map (fun p => pre ++ c :: p) = g_ext R C (g_kdE m kd nu) f' t (pre ++ [c]) := by
          unfold g_pth g_ext
          rw [if_neg (by rw [h0]; decide), if_neg (by rw [h0]; decide), List.map_map]
          congr 1
          funext p
          simp
        rw [e1] at hK2 hlen2
        exact ih f' (by omega) t (pre ++ [c]) (k + 1) (d - 1) M1 L1 _ ht (by omega) (by omega) (by omega) hb1 hm2 hpc hL1 hlen2 hK2
      refine ⟨fun g => absurd g (q_nlt0 (by omega)), fun _ => ⟨hv, ?_⟩⟩
      rw [q_cn (show t < 2 ^ 31 by omega), hnt, hm2, hkt]
      by_cases hlow : kd t < 2
      · have e0 : g_kdE m kd nu t = 0 := by unfold g_kdE; rw [if_neg (by omega)]; omega
        unfold g_numb
        rw [if_pos hlow]
        exact ⟨fun _ => rec_ e0, fun g => absurd (show (-9 : Int32) < 0 by decide) g⟩
      · have hnn := hnu (by omega)
        unfold g_numb
        rw [if_neg hlow]
        refine ⟨fun g => absurd g (q_nlt0 (by omega)), fun _ => ⟨hv, ?_⟩⟩
        rw [q_lt (by omega) (by omega)]
        refine ⟨fun g => ?_, fun g => rec_ (by unfold g_kdE; rw [if_pos ⟨by omega, by omega⟩])⟩
        have eE : g_kdE m kd nu t = kd t := by unfold g_kdE; rw [if_neg (by omega)]
        refine ⟨hv, fun g3 => ?_, fun g3 => ⟨hv, ?_⟩⟩
        · have e2 : kd t = 2 := by
            rcases (show kd t = 2 ∨ kd t = 3 by omega) with e | e
            · exact e
            · exact absurd (by rw [e]; rfl) g3
          have e1 : g_pth R C (g_kdE m kd nu) (f' + 1) t = [] := by unfold g_pth; rw [eE, if_neg (by omega), if_pos e2]
          rw [e1] at hK2
          exact hK2 M1 (w_fr.rf _ _ _ _ _) (by simpa using hL1)
        · have e3 : kd t = 3 := (q_eq (b := 3) (by omega) (by omega)).mp g3
          have e1 : g_pth R C (g_kdE m kd nu) (f' + 1) t = [[t]] := by unfold g_pth; rw [eE, if_pos e3]
          rw [e1] at hK2 hlen2
          have eb : nI (g_bits (pre ++ [c])) ||| ((1 : Int32) <<< (nI t &&& 31)) = nI (g_bits (pre ++ [c, t])) := by
            rw [n_sh t (by omega), n_or, g_bits_app, g_bits_app]
            simp [g_bits, Nat.or_assoc]
          rw [eb]
          have hp := w_push (pre ++ [c, t]) hL1 (iC := 57) (iWl := 61) (iSz := 55) (by omega) (by omega) (by omega)
          have el : (pre ++ [c, t]).getLastD 0 = t := by simp [List.getLastD_eq_getLast?]
          rw [el] at hp
          refine c_note54 hdr hL1.1 (by simp at hlen2; omega) ?_
          exact hK2 _ hp.2 (by simpa using hp.1)
  have hlen' : (L ++ ((g_o (g_nx R C (g_kdE m kd nu) c 0) (g_pth R C (g_kdE m kd nu) f)).map (fun p => pre ++ c :: p) ++ (g_o (g_nx R C (g_kdE m kd nu) c 1) (g_pth R C (g_kdE m kd nu) f)).map (fun p => pre ++ c :: p))).length ≤ 126 := by
    rw [← List.map_append]; exact hlen
  refine one 0 M L (by decide) hb hm1 hL (by simp only [List.length_append] at hlen' ⊢; omega) (fun M1 hf1 hL1 => ?_)
  have hb1 : b_now M1 R C n kd co nu dc wc := hb.eq (fun k h1 h2 => hf1.1 k (by omega) (by omega) (by omega))
  have hm2 : M1 54 1 = nI m := by rw [hf1.1 54 (by omega) (by omega) (by omega)]; exact hm1
  refine one 1 M1 _ (by decide) hb1 hm2 hL1 (by rw [List.append_assoc]; exact hlen') (fun M2 hf2 hL2 => ?_)
  refine vc42_54_p22 (by omega) ⟨fun _ => ?_, fun g => absurd (show (1 : Int32) < nI 2 by decide) g⟩
  refine hK M2 (hf1.tr hf2) ?_
  unfold g_ext
  rw [List.map_append, ← List.append_assoc]
  exact hL2
/-- all ways of the first m doors are there -/
def c_wys54 (M : q_M) (R C m : Nat) (kd nu dc : Nat → Nat) : Prop := M 54 1 = nI m ∧ ∀ dr, dr < m → w_at M 55 57 61 dr nu (g_wy R C (g_kdE m kd nu) (dc dr))
theorem c_fill54 (hw : b_wf R C n kd co nu dc wc) {m d : Nat} {M : q_M} {K : q_M → Prop} (hm : m ≤ n) (hd : 14 ≤ d) (hb : b_now M R C n kd co nu dc wc) (hK : ∀ M', (∀ k, k < 54 ∨ 54 + 10 ≤ k → M' k = M k) → c_wys54 M' R C m kd nu dc → K M') : q_Cv X d 41 [.ref 54, .int (nI m)] M K := by
  have hn3 := hw.2.2.1
  refine vc41_54 (by omega) ?_
  rw [hb.2.2.2.2.1]
  have e1 : (if nI n < nI m then nI n else nI m) = nI m := by
    split
    next g => rw [q_lt (by omega) (by omega)] at g; omega
    next => rfl
  rw [e1]
  have loop : ∀ (j i : Nat) (M1 : q_M), i + j = m → (∀ k, k < 54 ∨ 54 + 10 ≤ k → M1 k = M k) → M1 54 1 = nI m → (∀ dr, dr < i → w_at M1 55 57 61 dr nu (g_wy R C (g_kdE m kd nu) (dc dr))) → q_Ex X d 41 17 [some (.ref 54), none, some (.int (nI i))] [] M1 (q_rn K) := by
    intro j
    induction j with
    | zero =>
      intro i M1 hi hf hm1 hL
      refine vc41_54_p17 (by omega) ⟨fun _ => hK M1 hf ⟨hm1, fun dr hdr => hL dr (by omega)⟩, fun g => absurd ?_ g⟩
      rw [hm1, q_le (by omega) (by omega)]; omega
    | succ j ih =>
      intro i M1 hi hf hm1 hL
      refine vc41_54_p17 (by omega) ⟨fun g => ?_, fun g => ⟨q_vi (by omega) (by decide), ?_⟩⟩
      · rw [hm1, q_le (by omega) (by omega)] at g; omega
      · have hb1 : b_now (q_set M1 55 i 0) R C n kd co nu dc wc := hb.eq (fun k h1 h2 => by rw [q_set_n (by omega)]; exact hf k (by omega))
        rw [q_cn (by omega), nI_1]
        refine c_cellOfDoor hw (by omega) hb1 (by omega) ?_
        have hdc := (hw.2.2.2.2.2.1 i (by omega)).1
        obtain ⟨hR2, hC2⟩ := b_Cpos hw hdc
        have hE : g_ext R C (g_kdE m kd nu) 10 (dc i) [] = g_wy R C (g_kdE m kd nu) (dc i) := by unfold g_ext g_wy; rfl
        have hfar := g_far_le (c := dc i) hw.1 hw.2.1
        refine c_goOn54 hw (m := m) hm (dr := i) (by omega) 10 (dc i) [] 0 (d - 1) _ [] _ hdc (by omega) (by omega) (by omega) hb1 (by rw [q_set_n (by decide)]; exact hm1) (fun x hx => by simp at hx) ⟨by simp [q_set_ap, nI_0], fun i p hp => by simp at hp⟩ (by
          rw [hE]; simpa using g_wy_len (by omega) hw.1 hw.2.1 hdc) (fun M2 hf2 hL2 => ?_)
        rw [hE, List.nil_append] at hL2
        refine ih (i + 1) M2 (by omega) (fun k hk => ?_) ?_ (fun dr hdr => ?_)
        · rw [hf2.1 k (by omega) (by omega) (by omega), q_set_n (by omega)]; exact hf k hk
        · rw [hf2.1 54 (by omega) (by omega) (by omega), q_set_n (by decide)]; exact hm1
        · by_cases e : dr = i
          · subst e; exact hL2
          · have h0 := hL dr (by omega)
            refine ⟨?_, fun t p hp => ?_⟩
            · rw [hf2.2 dr e, q_set_ap, if_neg (by omega)]; exact h0.1
            · obtain ⟨x1, x2⟩ := h0.2 t p hp
              rw [hf2.1 (57 + dr) (by omega) (by omega) (by omega), hf2.1 (61 + dr) (by omega) (by omega) (by omega), q_set_n (by omega), q_set_n (by omega)]
              exact ⟨x1, x2⟩
  exact loop m 0 _ (by omega) (fun k hk => q_set_n (by omega)) (by simp [q_set_ap]) (fun dr h => by omega)
end CWays
