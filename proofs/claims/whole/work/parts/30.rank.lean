/-! the step of a way of the k-th family -/
def g_ans (F : List (List (List Nat))) (k dr s : Nat) : Int32 := match F[k]? with
  | none => -9
  | some f => g_stp (f.getD dr []) s
def c_rk (M : q_M) (F : List (List (List Nat))) : Prop := M 0 16 = -1 ∨ ∃ k f, M 0 16 = nI k ∧ k < 2 ^ 31 ∧ F[k]? = some f ∧ ∀ (d : Nat) (q : List Nat), f[d]? = some q → M 89 d = nI (g_bits q)
theorem c_rk.eq {M M' : q_M} {F : List (List (List Nat))} (h : c_rk M F) (h1 : M' 0 16 = M 0 16) (h2 : M' 89 = M 89) : c_rk M' F := by
  unfold c_rk at h ⊢
  rw [h1, h2]
  exact h
/-- what queries leave in the class -/
def c_fr (M M' : q_M) : Prop := (∀ k, k ≠ 0 → (k < 44 ∨ 96 < k) → k ≠ 17 → M' k = M k) ∧ ∀ j, j ≠ 15 → j ≠ 16 → M' 0 j = M 0 j
theorem c_fr.rf (M : q_M) : c_fr M M := ⟨fun _ _ _ _ => rfl, fun _ _ _ => rfl⟩
theorem c_fr.tr {A B D : q_M} (h : c_fr A B) (h2 : c_fr B D) : c_fr A D := ⟨fun k a b c => (h2.1 k a b c).trans (h.1 k a b c), fun j a b => (h2.2 j a b).trans (h.2 j a b)⟩
theorem h_fr.c {A B : q_M} (h : h_fr A B) : c_fr A B := ⟨fun k a b _ => h.1 k a (by omega), fun j a _ => h.2 j a⟩
/-- the study stands as it stood, or is now the board's -/
def c_sd (M M' : q_M) (R C n : Nat) (kd co nu dc wc : Nat → Nat) : Prop := (M' 0 15 = M 0 15 ∧ ∀ k, 44 ≤ k → (k ≤ 53 ∨ (64 ≤ k ∧ k ≤ 87)) → M' k = M k) ∨ (M' 0 15 = M' 10 1 ∧ k_ok M' R C n kd co nu dc wc)
theorem fam_way {R C n : Nat} {kd nu dc : Nat → Nat} {w o : Nat} {k dr : Nat} {f : List (List Nat)} (hf : (g_law (g_W R C kd dc) nu w o n)[k]? = some f) (hdr : dr < n) : f[dr]? = some (f.getD dr []) ∧ f.getD dr [] ∈ g_wy R C kd (dc dr) := by
  have hm := List.mem_of_getElem? hf
  have hl := g_fam_len _ _ _ _ _ _ _ hm
  have h1 : f[dr]? = some (f.getD dr []) := by
    rw [List.getD_eq_getElem?_getD, List.getElem?_eq_getElem (by omega)]
    rfl
  refine ⟨h1, ?_⟩
  have := ((g_fam_mem _ _ _ _ _ _ hm).2 dr _ h1).1
  rw [Nat.zero_add] at this
  exact this
section Rank
variable {X : Nat × (Nat → Int32)} {R C n : Nat} {kd co nu dc wc : Nat → Nat}
theorem c_stepOfRanked (hw : b_wf R C n kd co nu dc wc) {d w o k dr s : Nat} {M : q_M} {K : Int32 → q_M → Prop} (hd : 18 ≤ d) (hdr : dr < n) (hk : k < 2 ^ 31) (hs : s < 2 ^ 31) (hq : c_q M R C n kd co nu dc wc w o) (e4 : M 0 15 = M 10 1) (k4 : k_ok M R C n kd co nu dc wc) (hr : c_rk M (g_law (g_W R C kd dc) nu w o n)) (h : ∀ M', c_fr M M' → c_sd M M' R C n kd co nu dc wc → c_rk M' (g_law (g_W R C kd dc) nu w o n) → K (g_ans (g_law (g_W R C kd dc) nu w o n) k dr s) M') : q_Ci X d 80 [.ref 0, .int (nI k), .int (nI (g_law (g_W R C kd dc) nu w o n).length), .int (nI dr), .int (nI s)] M K := by
  have hn3 := hw.2.2.1
  have hb := hq.1
  have hlen := law_len (w := w) (o := o) hw
  refine vc80 (by omega) ?_
  rw [q_lt hk (by omega), nI_1]
  refine ⟨fun g2 => ⟨fun g => ⟨q_vi (by omega) (by decide), ?_⟩, fun g => ?_⟩, fun g2 => ?_⟩
  · rw [q_cn (by omega)]
    rcases hr with e | ⟨k', f, e1, e2, e3, e4⟩
    · rw [e] at g
      exact absurd (show nI k < 0 by rw [g]; decide) (q_nlt0 hk)
    · have ek : k = k' := by rw [e1] at g; exact (q_eq hk e2).mp g
      subst ek
      obtain ⟨f1, f2⟩ := fam_way e3 hdr
      rw [e4 dr _ f1]
      refine c_stepOfWay hw (by omega) hb hdr hs f2 ?_
      have ea : g_ans (g_law (g_W R C kd dc) nu w o n) k dr s = g_stp (f.getD dr []) s := by unfold g_ans; rw [e3]
      rw [← ea]
      exact h M (c_fr.rf M) (Or.inl ⟨rfl, fun _ _ _ => rfl⟩) (Or.inr ⟨k, f, e1, e2, e3, e4⟩)
  · obtain ⟨f, hf⟩ : ∃ f, (g_law (g_W R C kd dc) nu w o n)[k]? = some f := ⟨_, List.getElem?_eq_getElem g2⟩
    obtain ⟨l1, l2, l3, l4, l5⟩ := hq.2.1
    refine c_lawNow l1 l2 ?_
    rw [l3]
    have hrun := v_run_all (k + 1) (g_law (g_W R C kd dc) nu w o n) 0 k f (by omega) hf
    refine c_seek88 (N := R * C) (nd := 0) (stop := k + 1) (W := g_W R C kd dc) (wc := wc) (by omega) (b_RC hw) hn3 (fun e he => ?_) (fun e he => g_wy_ok hw.r (hw.2.2.2.2.2.1 e he).1) l2 l4 l5 (by decide) (by omega) (by omega) k4.1 k4.2.1 (fun M9 f9 p9 => ⟨q_vi (by omega) (by decide), ?_⟩)
    · have hdc := (hw.2.2.2.2.2.1 e he).1
      have hC2 := (b_Cpos hw hdc).2
      exact g_wy_len (by omega) hw.1 hw.2.1 hdc
    · obtain ⟨f1, f2⟩ := fam_way hf hdr
      rw [hrun] at p9
      rw [q_cn (by omega), p9 f rfl dr _ f1]
      have hb9 : b_now (q_set M9 0 16 (nI k)) R C n kd co nu dc wc := hb.eq (fun q a b => by rw [q_set_n (by omega), f9 q (by omega) (by omega) (by omega)])
      refine c_stepOfWay hw (by omega) hb9 hdr hs f2 ?_
      have ea : g_ans (g_law (g_W R C kd dc) nu w o n) k dr s = g_stp (f.getD dr []) s := by unfold g_ans; rw [hf]
      rw [← ea]
      refine h _ ⟨fun q a b _ => by rw [q_set_n a, f9 q (by omega) (by omega) (by omega)], fun j a b => by rw [q_set_ap, if_neg (by omega), f9 0 (by decide) (by decide) (by decide)]⟩ (Or.inr ⟨?_, ?_⟩) (Or.inr ⟨k, f, by rw [q_set_ap, if_pos ⟨rfl, rfl⟩], hk, hf, fun e q he => by rw [q_set_n (by decide)]; exact p9 f rfl e q he⟩)
      · rw [q_set_ap, if_neg (by omega), q_set_n (by decide), f9 0 (by decide) (by decide) (by decide), f9 10 (by decide) (by decide) (by decide)]; exact e4
      · exact k4.eq hn3 (fun q a b => by rw [q_set_n (by omega), f9 q (by omega) (by omega) (by omega)])
  · have ea : g_ans (g_law (g_W R C kd dc) nu w o n) k dr s = -9 := by
      unfold g_ans
      rw [List.getElem?_eq_none (by omega)]
    rw [ea] at h
    exact h M (c_fr.rf M) (Or.inl ⟨rfl, fun _ _ _ => rfl⟩) hr
theorem c_drawBelow {d m : Nat} {z : Int32} {M : q_M} {K : Int32 → q_M → Prop} (hm : 0 < m) (hm2 : m < 2 ^ 31) (h : ∀ e : Nat, e < 2 ^ 31 → ((z * 1664525 + 1013904223) &&& 2147483647) = nI e → K (nI (e / 256 % m)) M) : q_Ci X d 82 [.int (nI m), .int z] M K := by
  obtain ⟨e, he, ee⟩ := pk_andE (z * 1664525 + 1013904223) (m := 2147483647) 31 rfl
  have hle : e / 256 ≤ e := Nat.div_le_self _ _
  refine vc82 ⟨fun _ => ⟨fun q => absurd ((q_eq (b := 0) hm2 (by omega)).mp q) (by omega), ?_⟩, fun g => absurd ((q_le (a := 1) (by omega) hm2).mpr (by omega)) g⟩
  rw [ee, show nI e / 256 = nI (e / 256) from pk_div (d := 256) he (by decide) (by decide), pk_rem (by omega) hm hm2]
  exact h e he ee
theorem r_stepOf (hw : r_wf R C n kd nu dc wc) {d w o ks k dr s : Nat} {se : Nat → Nat} {M : q_M} {K : Int32 → q_M → Prop} (hd : 18 ≤ d) (hb : r_b M R C n kd co nu) (hco : ∀ c, c < R * C → co c ≤ 9) (hst : r_st M (R * C) n w o ks se) (hdr : dr < n) (hk : k < 2 ^ 31) (hs : s < 2 ^ 31) (h : ∀ M', x_fr M M' → K (g_ans (g_law (g_W R C kd dc) nu w o n) k dr s) M') : q_Ci X d 134 [.ref 97, .int (nI k), .int (nI dr), .int (nI s)] M K := by
  have hn3 := hw.2.2.1
  have hdc := (hw.2.2.2.2.2.1 dr hdr).1
  obtain ⟨hR2, hC2⟩ := r_Cpos hw hdc
  have hRC := r_RC hw
  refine vc134 (by omega) ?_
  refine r_findsByLaw hw (wk := some k) (by omega) hb hco hst (fun k' e => by cases e; exact hk) (fun M1 f1 w1 z1 => ?_)
  have z1a : M1 97 20 = nI (g_law (g_W R C kd dc) nu w o n).length := z1.1
  have z7 := z1.2.2.2.2.2.2
  have hcnt : (g_law (g_W R C kd dc) nu w o n).length ≤ 126 ^ n := g_fam_cnt _ _ _ n 0 0 (fun e he => by
    have hdc := (hw.2.2.2.2.2.1 e (by omega)).1
    exact g_wy_len (by omega) hw.1 hw.2.1 hdc)
  have hp3 : 126 ^ n ≤ 126 ^ 3 := Nat.pow_le_pow_right (by decide) hn3
  rw [z1a, q_lt hk (by omega)]
  refine ⟨fun g => ?_, fun g => ?_⟩
  · obtain ⟨f, hf⟩ : ∃ f, (g_law (g_W R C kd dc) nu w o n)[k]? = some f := ⟨_, List.getElem?_eq_getElem g⟩
    obtain ⟨i, i1, i2, i3⟩ := z7 k f rfl hf dr hdr
    obtain ⟨f1a, f2a⟩ := fam_way hf hdr
    rw [f1a] at i3
    have hle := g_wy_len (kd := kd) (by omega) hw.1 hw.2.1 hdc
    obtain ⟨v1, v2, v3, v4⟩ := (w1 dr hdr).2 i _ i3
    have lk := (g_wy_lk (by omega) hdc _ f2a).1
    have hcell := (g_wy_ok hw hdc _ f2a).1
    have hlen := lk_len hC2 hcell lk
    have hcl := g_code_lt (f.getD dr []) 0
    have hc30 : g_code 0 (f.getD dr []) < 2 ^ 31 := Nat.lt_of_lt_of_le hcl (Nat.pow_le_pow_right (by decide) (by omega))
    have ea : g_ans (g_law (g_W R C kd dc) nu w o n) k dr s = g_stp (f.getD dr []) s := by unfold g_ans; rw [hf]
    rw [ea] at h
    have eix : (400 : Int32) * nI dr + M1 111 (Int32.toNatClampNeg (nI dr)) = nI (400 * dr + i) := by
      rw [q_cn (by omega), i1, show (400 : Int32) * nI dr = nI (400 * dr) from pk_mul 400 dr, nI_add]
    have i2' : i < (g_wy R C kd (dc dr)).length := i2
    rw [eix, q_cn (show 400 * dr + i < 2 ^ 31 by omega), v2, v3, q_le (by omega) hs]
    have hv : vp_in (nI (400 * dr + i)) 1200 := q_vi (by omega) (by decide)
    refine ⟨q_vi (by omega) (by decide), hv, fun g2 => ?_, fun g2 => ⟨hv, ?_⟩⟩
    · rw [g_stp, if_neg (by omega)] at h
      exact h M1 f1
    · rw [g_stp, if_pos (by omega)] at h
      rw [n_bitN hc30 (by omega)]
      exact h M1 f1
  · have ea : g_ans (g_law (g_W R C kd dc) nu w o n) k dr s = -9 := by
      unfold g_ans
      rw [List.getElem?_eq_none (by omega)]
    rw [ea] at h
    exact h M1 f1
/-- the seen cells of the class -/
def c_sn (M : q_M) (N ks : Nat) (se : Nat → Nat) : Prop := M 10 4 = nI ks ∧ ks ≤ 4 ∧ ∀ j, j < ks → M 18 j = nI (se j) ∧ se j < N
theorem c_seenBits {d N ks : Nat} {se : Nat → Nat} {M : q_M} {K : Int32 → q_M → Prop} (hN : N ≤ 30) (hs : c_sn M N ks se) (h : K (nI (g_sb se ks)) M) : q_Ci X d 6 [.ref 10] M K := by
  obtain ⟨s1, s2, s3⟩ := hs
  refine vc6 ?_
  have loop : ∀ (j i : Nat), i + j = ks → q_Ex X d 6 4 [some (.ref 10), some (.int (nI (g_sb se i))), some (.int (nI i))] [] M (q_ri K) := by
    intro j
    induction j with
    | zero =>
      intro i hi
      refine vc6_p4 ⟨fun _ => by rw [show i = ks by omega]; exact h, fun g => absurd (by rw [s1, q_le (by omega) (by omega)]; omega) g⟩
    | succ j ih =>
      intro i hi
      obtain ⟨a1, a2⟩ := s3 i (by omega)
      refine vc6_p4 ⟨fun g => ?_, fun _ => ⟨q_vi (by omega) (by decide), ?_⟩⟩
      · rw [s1, q_le (by omega) (by omega)] at g; omega
      · rw [q_cn (by omega), a1, n_sh _ (by omega), n_or, nI_1, ← g_sb_succ]
        exact ih (i + 1) (by omega)
  exact loop ks 0 (by omega)
theorem z_fit_0 (F : List (List (List Nat))) : z_fit F 0 = F.length := by
  unfold z_fit
  rw [show (fun f => f_bits f &&& 0 == 0) = (fun _ => true) from funext fun f => by simp, g_ft]
theorem g_sb_lt {se : Nat → Nat} {ks N : Nat} (hN : N ≤ 30) (h : ∀ j, j < ks → se j < N) : g_sb se ks < 2 ^ 30 := g_bits_31 (N := N) (fun c hc => by
  obtain ⟨j, hj, rfl⟩ := List.mem_map.mp hc
  exact h j (List.mem_range.mp hj)) hN
theorem c_hasSlope {d N : Nat} {M : q_M} {K : Int32 → q_M → Prop} (hM : M 11 2 = nI N) (hN : N < 2 ^ 31) (h1 : 0 < N → K 1 M) (h2 : N = 0 → K 0 M) : q_Ci X d 73 [.ref 0] M K := by
  refine vc73 ?_
  rw [hM, show (0 : Int32) = nI 0 from rfl, q_le hN (by decide)]
  exact ⟨fun g => h2 (by omega), fun g => h1 (by omega)⟩
theorem c_fits (hw : b_wf R C n kd co nu dc wc) {d w o ks : Nat} {se : Nat → Nat} {M : q_M} {K : Int32 → q_M → Prop} (hd : 20 ≤ d) (hn0 : 0 < n) (hq : c_q M R C n kd co nu dc wc w o) (hs : c_sn M (R * C) ks se) (h : ∀ M', c_fr M M' → c_sd M M' R C n kd co nu dc wc → M' 89 = M 89 → M' 0 16 = M 0 16 → K (nI (z_fit (g_law (g_W R C kd dc) nu w o n) (g_sb se ks))) M') : q_Ci X d 61 [.ref 0] M K := by
  have hn3 := hw.2.2.1
  have hb := hq.1
  have hRC := b_RC hw
  have hlen := law_len (w := w) (o := o) hw
  have hsb := g_sb_lt (ks := ks) (se := se) hRC (fun j hj => (hs.2.2 j hj).2)
  have hN0 : 0 < R * C := by
    have := (hw.2.2.2.2.2.1 0 hn0).1
    omega
  refine vc61 (by omega) (c_hasSlope hb.2.2.1 (by omega) (fun _ => ⟨fun _ => ?_, fun g => absurd g (by decide)⟩) (fun q => by omega))
  refine c_seenBits hRC hs ?_
  refine ⟨fun g => ?_, fun g => ?_⟩
  · refine c_studyNow hw (by omega) hb hq.2.2 (fun M7 f7 e7 k7 => ⟨rfl, ?_⟩)
    obtain ⟨l1, l2, l3, l4, l5⟩ := hq.2.1.eq (f7.1 10 (by decide) (by omega))
    refine c_lawNow l1 l2 ?_
    rw [l3]
    have hf := z_fit_le (g_law (g_W R C kd dc) nu w o n) (g_sb se ks)
    have hrun := v_run_fit (g_sb se ks) 2147483647 (g_law (g_W R C kd dc) nu w o n) 0 (by omega)
    refine c_seek91 (N := R * C) (nd := g_sb se ks) (stop := 2147483647) (W := g_W R C kd dc) (wc := wc) (by omega) hRC hn3 (fun e he => ?_) (fun e he => g_wy_ok hw.r (hw.2.2.2.2.2.1 e he).1) l2 l4 l5 hsb (by decide) (by decide) k7.1 k7.2.1 (fun M9 f9 p9 => ?_)
    · have hdc := (hw.2.2.2.2.2.1 e he).1
      have hC2 := (b_Cpos hw hdc).2
      exact g_wy_len (by omega) hw.1 hw.2.1 hdc
    · rw [hrun, Nat.zero_add]
      refine h M9 ⟨fun q a b _ => by rw [f9 q (by omega) (by omega) (by omega), f7.1 q a (by omega)], fun j a b => by rw [f9 0 (by decide) (by decide) (by decide), f7.2 j a]⟩ (Or.inr ⟨by rw [f9 0 (by decide) (by decide) (by decide), f9 10 (by decide) (by decide) (by decide)]; exact e7, k7.eq hn3 (fun q a b => f9 q (by omega) (by omega) (by omega))⟩) (by rw [f9 89 (by decide) (by decide) (by decide), f7.1 89 (by decide) (by omega)]) (by rw [f9 0 (by decide) (by decide) (by decide), f7.2 16 (by decide)])
  · have e0 : g_sb se ks = 0 := (q_eq (b := 0) (by omega) (by decide)).mp g
    refine c_familiesByLaw hw (by omega) hn0 hq (fun M9 f9 e9 k9 => ?_)
    rw [e0, z_fit_0] at h
    exact h M9 f9.c (Or.inr ⟨e9, k9⟩) (f9.1 89 (by decide) (by omega)) (f9.2 16 (by decide))
end Rank
