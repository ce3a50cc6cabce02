theorem g_pth_congr {R C : Nat} {k1 k2 : Nat → Nat} (hC : 0 < C) (h : ∀ c, c < R * C → k1 c = k2 c) : (∀ c st, c < R * C → g_nx R C k1 c st = g_nx R C k2 c st) ∧ ∀ (f c : Nat), c < R * C → g_pth R C k1 f c = g_pth R C k2 f c := by
  have hnx : ∀ c st, c < R * C → g_nx R C k1 c st = g_nx R C k2 c st := by
    intro c st hc
    unfold g_nx
    by_cases h0 : st = 0
    · rw [if_pos h0, if_pos h0]
      by_cases h1 : c + C < R * C
      · rw [h _ h1]
      · rw [if_neg (fun q => h1 q.1), if_neg (fun q => h1 q.1)]
    · rw [if_neg h0, if_neg h0]
      by_cases h1 : c % C + 1 < C
      · rw [h _ (g_right hC hc h1).1]
      · rw [if_neg (fun q => h1 q.1), if_neg (fun q => h1 q.1)]
  refine ⟨hnx, fun f => ?_⟩
  induction f with
  | zero => intro c hc; unfold g_pth; rw [h c hc]
  | succ f ih =>
    intro c hc
    have e : ∀ st, g_o (g_nx R C k1 c st) (g_pth R C k1 f) = g_o (g_nx R C k2 c st) (g_pth R C k2 f) := fun st => by
      rw [hnx c st hc]
      cases hn : g_nx R C k2 c st with
      | none => rfl
      | some t => exact ih t (g_nx_far hC hc hn).1
    rw [g_pth, g_pth, h c hc, e 0, e 1]
theorem g_wy_congr {R C : Nat} {k1 k2 : Nat → Nat} (hC : 0 < C) (h : ∀ c, c < R * C → k1 c = k2 c) {c : Nat} (hc : c < R * C) : g_wy R C k1 c = g_wy R C k2 c := by
  obtain ⟨h1, h2⟩ := g_pth_congr hC h
  have e : ∀ f st, g_o (g_nx R C k1 c st) (g_pth R C k1 f) = g_o (g_nx R C k2 c st) (g_pth R C k2 f) := fun f st => by
    rw [h1 c st hc]
    cases hn : g_nx R C k2 c st with
    | none => rfl
    | some t => exact h2 f t (g_nx_far hC hc hn).1
  unfold g_wy
  rw [e 10 0, e 10 1]
theorem g_ft {α : Type} (F : List α) : F.filter (fun _ => true) = F := by
  induction F with
  | nil => rfl
  | cons a r ih => rw [List.filter_cons_of_pos rfl, ih]
/-- ways of all doors of a board -/
abbrev g_W (R C : Nat) (kd dc : Nat → Nat) : Nat → List (List Nat) := fun dr => g_wy R C kd (dc dr)
/-- ways and study in the class are those of the board -/
def k_ok (M : q_M) (R C n : Nat) (kd co nu dc wc : Nat → Nat) : Prop := M 44 1 = nI n ∧ (∀ dr, dr < n → w_at M 45 47 51 dr nu (g_W R C kd dc dr)) ∧ s_ok M n (R * C) co nu dc wc (g_W R C kd dc)
theorem k_ok.eq {M M' : q_M} {R C n : Nat} {kd co nu dc wc : Nat → Nat} (h : k_ok M R C n kd co nu dc wc) (hn3 : n ≤ 3) (hk : ∀ k, 44 ≤ k → k ≤ 53 ∨ (64 ≤ k ∧ k ≤ 87) → M' k = M k) : k_ok M' R C n kd co nu dc wc := by
  obtain ⟨h1, h2, h3⟩ := h
  refine ⟨by rw [hk 44 (by omega) (by omega)]; exact h1, fun dr hdr => ?_, h3.eq (fun k a b => hk k (by omega) (by omega))⟩
  have := h2 dr hdr
  unfold w_at at this ⊢
  rw [hk 45 (by omega) (by omega), hk (47 + dr) (by omega) (by omega), hk (51 + dr) (by omega) (by omega)]
  exact this
def h_fr (M M' : q_M) : Prop := (∀ k, k ≠ 0 → (k < 44 ∨ (54 ≤ k ∧ k < 64) ∨ 87 < k) → M' k = M k) ∧ ∀ j, j ≠ 15 → M' 0 j = M 0 j
theorem h_fr.rf (M : q_M) : h_fr M M := ⟨fun _ _ _ => rfl, fun _ _ => rfl⟩
theorem h_fr.tr {A B D : q_M} (h : h_fr A B) (h2 : h_fr B D) : h_fr A D := ⟨fun k a b => (h2.1 k a b).trans (h.1 k a b), fun j a => (h2.2 j a).trans (h.2 j a)⟩
section Now
variable {X : Nat × (Nat → Int32)} {R C n : Nat} {kd co nu dc wc : Nat → Nat}
theorem b_kdE (hw : b_wf R C n kd co nu dc wc) : ∀ c, c < R * C → g_kdE n kd nu c = kd c := by
  intro c hc
  unfold g_kdE
  rw [if_neg (fun q => by have := (hw.2.2.2.2.1 c hc).2.2.2 q.1; omega)]
theorem c_studyNow (hw : b_wf R C n kd co nu dc wc) {d : Nat} {M : q_M} {K : Nat → q_M → Prop} (hd : 16 ≤ d) (hb : b_now M R C n kd co nu dc wc) (hc : M 0 15 = M 10 1 → k_ok M R C n kd co nu dc wc) (h : ∀ M', h_fr M M' → M' 0 15 = M' 10 1 → k_ok M' R C n kd co nu dc wc → K 64 M') : q_Cr X d 74 [.ref 0] M K := by
  have hn3 := hw.2.2.1
  refine vc74 (by omega) ⟨fun g => h M (h_fr.rf M) g (hc g), fun _ => ?_⟩
  rw [hb.2.2.2.2.1]
  refine c_fill44 hw (Nat.le_refl n) (by omega) hb (fun M2 f2 w2 => ?_)
  have hW : ∀ dr, dr < n → w_at M2 45 47 51 dr nu (g_W R C kd dc dr) := fun dr hdr => by
    have h1 := w2.2 dr hdr
    have hdc := (hw.2.2.2.2.2.1 dr hdr).1
    have hC2 := (b_Cpos hw hdc).2
    rw [g_wy_congr (by omega) (b_kdE hw) hdc] at h1
    exact h1
  have hb2 : b_now M2 R C n kd co nu dc wc := hb.eq (fun k a b => f2 k (by omega))
  refine c_make hw (W := g_W R C kd dc) (by omega) hb2 w2.1 (fun dr hdr => ?_) (fun dr hdr => g_wy_ok hw.r (hw.2.2.2.2.2.1 dr hdr).1) hW (fun M3 f3 s3 => ?_)
  · have hdc := (hw.2.2.2.2.2.1 dr hdr).1
    have hC2 := (b_Cpos hw hdc).2
    exact g_wy_len (by omega) hw.1 hw.2.1 hdc
  · refine h _ ⟨fun k a b => ?_, fun j a => ?_⟩ ?_ ?_
    · rw [q_set_n a, f3 k (by omega), f2 k (by omega)]
    · rw [q_set_ap, if_neg (by omega), f3 0 (by omega), f2 0 (by omega)]
    · rw [q_set_ap, if_pos ⟨rfl, rfl⟩, q_set_n (by decide)]
    · have k3 : k_ok M3 R C n kd co nu dc wc := by
        refine ⟨by rw [f3 44 (by omega)]; exact w2.1, fun dr hdr => ?_, s3⟩
        have := hW dr hdr
        unfold w_at at this ⊢
        rw [f3 45 (by omega), f3 (47 + dr) (by omega), f3 (51 + dr) (by omega)]
        exact this
      exact k3.eq hn3 (fun k a b => q_set_n (by omega))
theorem c_lawNow {d w : Nat} {M : q_M} {K : Nat → q_M → Prop} (hl : M 10 2 = nI w) (hw5 : w < 5) (h : K (39 + w) M) : q_Cr X d 75 [.ref 0] M K := by
  refine vc75 ?_
  rw [hl, q_cn (by omega)]
  exact ⟨fun g => absurd g (q_nlt0 (by omega)), fun _ => ⟨fun g => absurd ((q_le (a := 5) (by omega) (by omega)).mp g) (by omega), fun _ => ⟨q_vi hw5 (by decide), h⟩⟩⟩
/-- the law and what is told in the class -/
def c_lw (M : q_M) (n w o : Nat) : Prop := M 10 2 = nI w ∧ w < 5 ∧ M 10 3 = nI o ∧ o < 1000 ∧ ∀ d, d < n → o / 10 ^ d % 10 < n
theorem c_lw.eq {M M' : q_M} {n w o : Nat} (h : c_lw M n w o) (hk : M' 10 = M 10) : c_lw M' n w o := by unfold c_lw at *; rw [hk]; exact h
theorem c_ordersByLaw {d w o : Nat} {M : q_M} {K : Int32 → q_M → Prop} (hd : 6 ≤ d) (hn : M 11 4 = nI n) (hn3 : n ≤ 3) (hl : c_lw M n w o) (h : ∀ mk, l_mk w o n mk → K (nI mk) M) : q_Ci X d 76 [.ref 0] M K := by
  obtain ⟨l1, l2, l3, l4, l5⟩ := hl
  have h9 := o_en9 hn3
  have hse := o_sten hn3
  refine vc76 (by omega) (c_lawNow l1 l2 ?_)
  rw [hn]
  refine c_firstOrder hn3 ?_
  have loop : ∀ (j i b : Nat), i + j = o_en n → o_st n ≤ i → b < 512 → (∀ p, b.testBit p = (decide (o_st n ≤ p) && decide (p < i) && l_tk w o n (o_at p))) → q_Ex X d 76 24 [some (.ref 0), some (.int (nI n)), some (.ref (39 + w)), some (.int (nI b)), some (.int (nI i))] [] M (q_ri K) := by
    intro j
    induction j with
    | zero =>
      intro i b hi hs hb hbt
      refine vc76_p24 (by omega) (c_endOfOrders hn3 ⟨fun _ => h b ⟨hb, fun p => by rw [hbt p, show i = o_en n by omega]⟩, fun g => absurd ((q_le (by omega) (by omega)).mpr (by omega)) g⟩)
    | succ j ih =>
      intro i b hi hs hb hbt
      have hoi := o_lt (show i < 9 by omega)
      refine vc76_p24 (by omega) (c_endOfOrders hn3 ⟨fun g => absurd ((q_le (by omega) (by omega)).mp g) (by omega), fun _ => ⟨q_vi (by omega) (by decide), ?_⟩⟩)
      rw [q_cn (by omega), o_rc0 X (by omega), l3, nI_1]
      refine c_tkV76 l2 (by omega) hn3 (by omega) (by omega) l5 ?_
      cases ht : l_tk w o n (o_at i) with
      | false =>
        refine ⟨fun _ => ih (i + 1) b (by omega) (by omega) hb (fun p => ?_), fun g => absurd rfl g⟩
        rw [hbt p]
        by_cases e : p = i
        · subst e; rw [ht]; simp
        · rw [show decide (p < i + 1) = decide (p < i) by simp; omega]
      | true =>
        refine ⟨fun g => absurd g (by decide), fun _ => ?_⟩
        rw [n_sh i (by omega), n_or]
        refine ih (i + 1) (b ||| 2 ^ i) (by omega) (by omega) (Nat.or_lt_two_pow (n := 9) hb (Nat.pow_lt_pow_right (by decide) (by omega))) (fun p => ?_)
        rw [Nat.testBit_or, hbt p, Nat.testBit_two_pow]
        by_cases e : p = i
        · subst e; rw [ht]; simp [hs]
        · rw [show decide (p < i + 1) = decide (p < i) by simp; omega, show decide (i = p) = false by simp; omega, Bool.or_false]
  exact loop (o_en n - o_st n) (o_st n) 0 (by omega) (Nat.le_refl _) (by decide) (fun p => by
    rw [Nat.zero_testBit]
    by_cases e : o_st n ≤ p
    · simp [show ¬ p < o_st n by omega]
    · simp [e])
/-- the whole of what queries by the law need of the class -/
def c_q (M : q_M) (R C n : Nat) (kd co nu dc wc : Nat → Nat) (w o : Nat) : Prop := b_now M R C n kd co nu dc wc ∧ c_lw M n w o ∧ (M 0 15 = M 10 1 → k_ok M R C n kd co nu dc wc)
theorem law_len {w o : Nat} (hw : b_wf R C n kd co nu dc wc) : (g_law (g_W R C kd dc) nu w o n).length ≤ 126 ^ 3 := by
  have hn3 := hw.2.2.1
  refine Nat.le_trans (g_fam_cnt _ _ _ n 0 0 (fun e he => ?_)) (Nat.pow_le_pow_right (by decide) hn3)
  have hdc := (hw.2.2.2.2.2.1 e (by omega)).1
  have hC2 := (b_Cpos hw hdc).2
  exact g_wy_len (by omega) hw.1 hw.2.1 hdc
theorem law_empty {w o : Nat} (hw : b_wf R C n kd co nu dc wc) (hn : n = 0) : g_law (g_W R C kd dc) nu w o n = [[]] := by subst hn; rfl
theorem c_familiesByLaw (hw : b_wf R C n kd co nu dc wc) {d w o : Nat} {M : q_M} {K : Int32 → q_M → Prop} (hd : 17 ≤ d) (hn0 : 0 < n) (hq : c_q M R C n kd co nu dc wc w o) (h : ∀ M', h_fr M M' → M' 0 15 = M' 10 1 → k_ok M' R C n kd co nu dc wc → K (nI (g_law (g_W R C kd dc) nu w o n).length) M') : q_Ci X d 77 [.ref 0] M K := by
  have hn3 := hw.2.2.1
  obtain ⟨hb, hl, hk⟩ := hq
  refine vc77 (by omega) (c_studyNow hw (by omega) hb hk (fun M1 f1 e1 k1 => ⟨rfl, ?_⟩))
  have hb1 : b_now M1 R C n kd co nu dc wc := hb.eq (fun k a b => f1.1 k (by omega) (by omega))
  refine c_ordersByLaw (by omega) hb1.2.2.2.2.1 hn3 (hl.eq (f1.1 10 (by decide) (by omega))) (fun mk hmk => ?_)
  refine c_familiesBy (g := fun p => ((t_F n nu p (g_sel (g_W R C kd dc) n 0 0)).filter (fun _ => true)).length) (by have := hmk.1; omega) (fun p hp => by rw [(k1.2.2.2.2 p hp).1, g_ft]) ?_
  rw [law_cnt hn0 hn3 (fun dr hdr => g_wy_ok hw.r (hw.2.2.2.2.2.1 dr hdr).1) hmk]
  rw [g_ft]
  exact h M1 f1 e1 k1
theorem c_famThrough (hw : b_wf R C n kd co nu dc wc) {d w o c : Nat} {M : q_M} {K : Int32 → q_M → Prop} (hd : 17 ≤ d) (hn0 : 0 < n) (hc : c < R * C) (hq : c_q M R C n kd co nu dc wc w o) (h : ∀ M', h_fr M M' → M' 0 15 = M' 10 1 → k_ok M' R C n kd co nu dc wc → K (nI (z_cnt (g_law (g_W R C kd dc) nu w o n) c)) M') : q_Ci X d 78 [.ref 0, .int (nI c)] M K := by
  have hn3 := hw.2.2.1
  obtain ⟨hb, hl, hk⟩ := hq
  refine vc78 (by omega) (c_studyNow hw (by omega) hb hk (fun M1 f1 e1 k1 => ⟨rfl, ?_⟩))
  have hb1 : b_now M1 R C n kd co nu dc wc := hb.eq (fun k a b => f1.1 k (by omega) (by omega))
  refine c_ordersByLaw (by omega) hb1.2.2.2.2.1 hn3 (hl.eq (f1.1 10 (by decide) (by omega))) (fun mk hmk => ?_)
  refine c_familiesThrough (g := fun p => ((t_F n nu p (g_sel (g_W R C kd dc) n 0 0)).filter (fun f => (f_bits f).testBit c)).length) (by omega) (by have := hmk.1; omega) hb1.2.2.1 (b_RC hw) hc (fun p hp => ((k1.2.2.2.2 p hp).2.2 c hc).1) ?_
  rw [law_cnt hn0 hn3 (fun dr hdr => g_wy_ok hw.r (hw.2.2.2.2.2.1 dr hdr).1) hmk]
  exact h M1 f1 e1 k1
end Now
