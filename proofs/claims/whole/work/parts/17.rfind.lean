theorem g_lastD_cons {c : Nat} {q : List Nat} (h : q ≠ []) : (c :: q).getLastD 0 = q.getLastD 0 := by
  cases q with
  | nil => exact absurd rfl h
  | cons x r => simp [List.getLastD_eq_getLast?, List.getLast?_cons_cons]
theorem g_pth_end {R C : Nat} {kd : Nat → Nat} (hC : 0 < C) : ∀ (f c : Nat), c < R * C → ∀ p ∈ g_pth R C kd f c, kd (p.getLastD 0) = 3 ∧ p.getLastD 0 ∈ p := by
  intro f
  induction f with
  | zero =>
    intro c hc p hp
    unfold g_pth at hp
    split at hp
    next h => simp at hp; subst hp; exact ⟨h, by simp⟩
    next => simp at hp
  | succ f ih =>
    intro c hc p hp
    unfold g_pth at hp
    split at hp
    next h => simp at hp; subst hp; exact ⟨h, by simp⟩
    next =>
      split at hp
      · simp at hp
      · obtain ⟨q, hq, rfl⟩ := List.mem_map.mp hp
        have go : ∀ st, q ∈ g_o (g_nx R C kd c st) (g_pth R C kd f) → kd ((c :: q).getLastD 0) = 3 ∧ (c :: q).getLastD 0 ∈ c :: q := by
          intro st h
          cases hn : g_nx R C kd c st with
          | none => rw [hn] at h; simp [g_o] at h
          | some t =>
            rw [hn] at h
            have ht := (g_nx_far hC hc hn).1
            obtain ⟨a1, a2⟩ := ih t ht q h
            have hne := (g_pth_in hC f t ht q h).1
            rw [g_lastD_cons hne]
            exact ⟨a1, List.mem_cons_of_mem _ a2⟩
        rcases List.mem_append.mp hq with h | h
        · exact go 0 h
        · exact go 1 h
theorem g_wy_ok {R C n : Nat} {kd nu dc wc : Nat → Nat} (hw : r_wf R C n kd nu dc wc) {c : Nat} (hc : c < R * C) : ∀ p ∈ g_wy R C kd c, g_wyOk (R * C) n nu wc p := by
  obtain ⟨hR2, hC2⟩ := r_Cpos hw hc
  intro p hp
  unfold g_wy at hp
  obtain ⟨q, hq, rfl⟩ := List.mem_map.mp hp
  have go : ∀ st, q ∈ g_o (g_nx R C kd c st) (g_pth R C kd 10) → g_wyOk (R * C) n nu wc (c :: q) := by
    intro st h
    cases hn : g_nx R C kd c st with
    | none => rw [hn] at h; simp [g_o] at h
    | some t =>
      rw [hn] at h
      have ht := (g_nx_far (by omega) hc hn).1
      obtain ⟨a1, a2⟩ := g_pth_end (by omega) 10 t ht q h
      obtain ⟨b1, b2, b3⟩ := g_pth_in (by omega) 10 t ht q h
      have hl := b3 _ a2
      unfold g_wyOk
      rw [g_lastD_cons b1]
      refine ⟨fun x hx => ?_, List.mem_cons_of_mem _ a2, (hw.2.2.2.2.1 _ hl).2 (by omega), hw.2.2.2.2.2.2.2 _ hl a1⟩
      rcases List.mem_cons.mp hx with rfl | hx
      · exact hc
      · exact b3 x hx
  rcases List.mem_append.mp hq with h | h
  · exact go 0 h
  · exact go 1 h
def x_fr (M M' : q_M) : Prop := (∀ k, k ≠ 97 → (k < 104 ∨ 113 < k) → M' k = M k) ∧ ∀ j, (j < 20 ∨ 24 < j) → M' 97 j = M 97 j
theorem x_fr.rf (M : q_M) : x_fr M M := ⟨fun _ _ _ => rfl, fun _ _ => rfl⟩
theorem x_fr.tr {A B D : q_M} (h : x_fr A B) (h2 : x_fr B D) : x_fr A D := ⟨fun k a b => (h2.1 k a b).trans (h.1 k a b), fun j a => (h2.2 j a).trans (h.2 j a)⟩
/-- the reference's law, what is told, the seen cells -/
def r_st (M : q_M) (N n w o ks : Nat) (se : Nat → Nat) : Prop := M 99 3 = nI w ∧ w < 5 ∧ (∀ d, d < n → M 99 (4 + d) = nI (o / 10 ^ d % 10) ∧ o / 10 ^ d % 10 < n) ∧ M 99 7 = nI ks ∧ ks ≤ 4 ∧ ∀ j, j < ks → M 99 (8 + j) = nI (se j) ∧ se j < N
theorem r_st.eq {M M' : q_M} {N n w o ks : Nat} {se : Nat → Nat} (h : r_st M N n w o ks se) (hk : M' 99 = M 99) : r_st M' N n w o ks se := by unfold r_st at *; rw [hk]; exact h
def g_sb (se : Nat → Nat) (ks : Nat) : Nat := g_bits ((List.range ks).map se)
theorem g_sb_succ (se : Nat → Nat) (k : Nat) : g_sb se (k + 1) = g_sb se k ||| 2 ^ se k := by
  unfold g_sb
  rw [List.range_succ, List.map_append, g_bits_app]
  simp [g_bits]
def l_wn (w o n d : Nat) : Option Nat := match w with
  | 0 => some d
  | 1 => some (n - 1 - d)
  | 2 => some ((d + 1) % n)
  | 3 => none
  | _ => some (o / 10 ^ d % 10)
section RFind
variable {X : Nat × (Nat → Int32)} {R C n : Nat} {kd co nu dc wc : Nat → Nat}
theorem r_findsFamilies (hw : r_wf R C n kd nu dc wc) {d ks : Nat} {se : Nat → Nat} {M : q_M} {K : q_M → Prop} {wk : Option Nat} {wn : Nat → Option Nat} (hd : 16 ≤ d) (hb : r_b M R C n kd co nu) (hco : ∀ c, c < R * C → co c ≤ 9) (hst7 : M 99 7 = nI ks) (hks : ks ≤ 4) (hse : ∀ j, j < ks → M 99 (8 + j) = nI (se j) ∧ se j < R * C) (hwk : ∀ k, wk = some k → k < 2 ^ 31) (hwn : ∀ dr w, wn dr = some w → w < 3) (hwt : ∀ dr, dr < n → M 109 dr = g_oj (wn dr))
    (h : ∀ M', x_fr M M' → r_wys M' R C n kd nu dc → z_at M' n (R * C) co (fun dr => g_wy R C kd (dc dr)) (g_sb se ks) wk (g_fam g_bits (g_okW wn nu) (fun dr => g_wy R C kd (dc dr)) n 0 0) → K M') : q_Cv X d 120 [.ref 97, .int (g_oj wk)] M K := by
  have hRC := r_RC hw
  have hn3 := hw.2.2.1
  have hseb : ∀ i, i ≤ ks → g_sb se i < 2 ^ 30 := fun i hi => g_bits_31 (N := R * C) (fun c hc => by
    obtain ⟨j, hj, rfl⟩ := List.mem_map.mp hc
    exact (hse j (by have := List.mem_range.mp hj; omega)).2) hRC
  refine vc120 (by omega) (r_findsWays hw (by omega) hb (fun M1 f1 hwy => ?_))
  have fin : ∀ M3 : q_M, (∀ k, k ≠ 97 → k ≠ 112 → k ≠ 113 → M3 k = M1 k) → (∀ j, (j < 20 ∨ 24 < j) → M3 97 j = M1 97 j) → M3 97 20 = 0 → M3 97 21 = -9 → M3 97 22 = 0 → M3 97 23 = g_oj wk → M3 97 24 = nI (g_sb se ks) → (∀ c, c < 30 → M3 112 c = 0 ∧ M3 113 c = 0) → q_Cv X (d - 1) 119 [.ref 97, .int 0, .int 0, .int 0] M3 K := by
    intro M3 g1 g2 e20 e21 e22 e23 e24 g3
    have hb3 : r_b M3 R C n kd co nu := hb.eq (by rw [g1 99 (by decide) (by decide) (by decide), f1 99 (by omega)])
    have hWl : ∀ dr, dr < n → (g_wy R C kd (dc dr)).length ≤ 126 := fun dr hdr => by
      have hdc := (hw.2.2.2.2.2.1 dr hdr).1
      obtain ⟨hR2, hC2⟩ := r_Cpos hw hdc
      exact g_wy_len (by omega) hw.1 hw.2.1 hdc
    have hcnt : (g_fam g_bits (g_okW wn nu) (fun dr => g_wy R C kd (dc dr)) n 0 0).length ≤ 126 ^ n := g_fam_cnt _ _ _ n 0 0 (fun e he => hWl e (by omega))
    have hp3 : 126 ^ n ≤ 126 ^ 3 := Nat.pow_le_pow_right (by decide) hn3
    have hF0 : (g_fam g_bits (g_okW wn nu) (fun dr => g_wy R C kd (dc dr)) n 0 (f_bits [])).map ([] ++ ·) = g_fam g_bits (g_okW wn nu) (fun dr => g_wy R C kd (dc dr)) n 0 0 := by
      rw [show f_bits [] = 0 from rfl]
      simp
    have hv3 : ∀ dr, dr < n → v_at M3 dr nu (g_wy R C kd (dc dr)) := fun dr hdr => by
      have := hwy dr hdr
      unfold v_at at this ⊢
      rw [g1 104 (by decide) (by decide) (by decide), g1 105 (by decide) (by decide) (by decide), g1 106 (by decide) (by decide) (by decide), g1 107 (by decide) (by decide) (by decide), g1 108 (by decide) (by decide) (by decide)]
      exact this
    refine r_familiesFrom hw (W := fun dr => g_wy R C kd (dc dr)) (sb := g_sb se ks) (wk := wk) (wn := wn) hco hWl (fun dr hdr => g_wy_ok hw (hw.2.2.2.2.2.1 dr hdr).1) (hseb ks (Nat.le_refl _)) hwk hwn n 0 (d - 1) 0 [] M3 [] K (by omega) (by omega) rfl (fun dr hdr => by omega) (fun p hp => by simp at hp) (by decide) (fun w hw => by simp at hw) hb3 hv3 (fun dr hdr => by rw [g1 109 (by decide) (by decide) (by decide), f1 109 (by omega)]; exact hwt dr hdr) ⟨e20, e21, e22, e23, e24, fun c hc => g3 c (by omega), fun k f _ hf => by simp at hf⟩ (fun g hg => by simp at hg) (by rw [hF0]; simp; omega) (fun M4 y4 z4 => ?_)
    rw [hF0, List.nil_append] at z4
    refine h M4 ⟨fun k a b => ?_, fun j a => ?_⟩ (fun dr hdr => ?_) z4
    · rw [y4.1 k a (by omega) (by omega) (by omega) (by omega), g1 k a (by omega) (by omega), f1 k (by omega)]
    · rw [y4.2.1 j (by omega) (by omega) (by omega), g2 j a, f1 97 (by omega)]
    · have := hv3 dr hdr
      unfold v_at at this ⊢
      rw [y4.1 104 (by decide) (by decide) (by decide) (by decide) (by decide), y4.1 105 (by decide) (by decide) (by decide) (by decide) (by decide), y4.1 106 (by decide) (by decide) (by decide) (by decide) (by decide), y4.1 107 (by decide) (by decide) (by decide) (by decide) (by decide), y4.1 108 (by decide) (by decide) (by decide) (by decide) (by decide)]
      exact this
  have clr : ∀ (j i : Nat) (M3 : q_M), i + j = 30 → (∀ k, k ≠ 97 → k ≠ 112 → k ≠ 113 → M3 k = M1 k) → (∀ j, (j < 20 ∨ 24 < j) → M3 97 j = M1 97 j) → M3 97 20 = 0 → M3 97 21 = -9 → M3 97 22 = 0 → M3 97 23 = g_oj wk → M3 97 24 = nI (g_sb se ks) → (∀ c, c < i → M3 112 c = 0 ∧ M3 113 c = 0) → q_Ex X d 120 71 [some (.ref 97), none, some (.int (nI i))] [] M3 (q_rn K) := by
    intro j
    induction j with
    | zero =>
      intro i M3 hi g1 g2 e20 e21 e22 e23 e24 g3
      refine vc120_p71 (by omega) ⟨fun _ => ?_, fun g => absurd ((q_le (a := 30) (by omega) (by omega)).mpr (by omega)) g⟩
      exact fin M3 g1 g2 e20 e21 e22 e23 e24 (fun c hc => g3 c (by omega))
    | succ j ih =>
      intro i M3 hi g1 g2 e20 e21 e22 e23 e24 g3
      refine vc120_p71 (by omega) ⟨fun g => absurd ((q_le (a := 30) (by omega) (by omega)).mp g) (by omega), fun _ => ⟨q_vi (by omega) (by decide), q_vi (by omega) (by decide), ?_⟩⟩
      rw [q_cn (by omega), nI_1]
      refine ih (i + 1) _ (by omega) (fun k a b c => by rw [q_set_n c, q_set_n b]; exact g1 k a b c) (fun j a => by rw [q_set_n (by decide), q_set_n (by decide)]; exact g2 j a) (by rw [q_set_n (by decide), q_set_n (by decide)]; exact e20) (by rw [q_set_n (by decide), q_set_n (by decide)]; exact e21) (by rw [q_set_n (by decide), q_set_n (by decide)]; exact e22) (by rw [q_set_n (by decide), q_set_n (by decide)]; exact e23) (by rw [q_set_n (by decide), q_set_n (by decide)]; exact e24) (fun c hc => ?_)
      by_cases q : c = i
      · subst q; simp [q_set_ap]
      · have := g3 c (by omega)
        simp [q_set_ap, q, this]
  have seen : ∀ (j i : Nat) (M2 : q_M), i + j = ks → (∀ k, k ≠ 97 → M2 k = M1 k) → (∀ j, (j < 20 ∨ 24 < j) → M2 97 j = M1 97 j) → M2 97 20 = 0 → M2 97 21 = -9 → M2 97 22 = 0 → M2 97 23 = g_oj wk → M2 97 24 = nI (g_sb se i) → q_Ex X d 120 32 [some (.ref 97), none, some (.int (nI i))] [] M2 (q_rn K) := by
    intro j
    induction j with
    | zero =>
      intro i M2 hi g1 g2 e20 e21 e22 e23 e24
      refine vc120_p32 ⟨fun _ => ?_, fun g => absurd ?_ g⟩
      · exact clr 30 0 M2 (by omega) (fun k a _ _ => g1 k a) g2 e20 e21 e22 e23 (by rw [e24, show i = ks by omega]) (fun c hc => by omega)
      · rw [g1 99 (by decide), f1 99 (by omega), hst7, q_le (by omega) (by omega)]; omega
    | succ j ih =>
      intro i M2 hi g1 g2 e20 e21 e22 e23 e24
      obtain ⟨s1, s2⟩ := hse i (by omega)
      refine vc120_p32 ⟨fun g => ?_, fun _ => ?_⟩
      · rw [g1 99 (by decide), f1 99 (by omega), hst7, q_le (by omega) (by omega)] at g; omega
      · rw [show (8 : Int32) + nI i = nI (8 + i) from nI_add 8 i, q_cn (by omega), g1 99 (by decide), f1 99 (by omega), s1, e24, n_sh _ (by omega), n_or, ← g_sb_succ, nI_1]
        refine ⟨q_vi (by omega) (by decide), ?_⟩
        refine ih (i + 1) _ (by omega) (fun k a => by rw [q_set_n a]; exact g1 k a) (fun j a => by rw [q_set_ap, if_neg (by omega)]; exact g2 j a) (by rw [q_set_ap, if_neg (by omega)]; exact e20) (by rw [q_set_ap, if_neg (by omega)]; exact e21) (by rw [q_set_ap, if_neg (by omega)]; exact e22) (by rw [q_set_ap, if_neg (by omega)]; exact e23) (by rw [q_set_ap, if_pos ⟨rfl, rfl⟩])
  exact seen ks 0 _ (by omega) (fun k a => by rw [q_set_n a, q_set_n a, q_set_n a, q_set_n a, q_set_n a]) (fun j a => by simp only [q_set_ap]; rw [if_neg (by omega), if_neg (by omega), if_neg (by omega), if_neg (by omega), if_neg (by omega)]) (by simp [q_set_ap]) (by simp [q_set_ap]) (by simp [q_set_ap]) (by simp [q_set_ap]) (by simp [q_set_ap, g_sb, g_bits, nI_0])
theorem r_wellBy {d w o n e : Nat} {M : q_M} {K : Int32 → q_M → Prop} (hn : M 99 2 = nI n) (hn3 : n ≤ 3) (hw : w < 5) (he : e < n) (ht : M 99 (4 + e) = nI (o / 10 ^ e % 10)) (h : K (g_oj (l_wn w o n e)) M) : q_Ci X d 121 [.ref 97, .int (nI w), .int (nI e)] M K := by
  refine vc121 ?_
  have h9 : ∀ v, v < 5 → (nI w = nI v ↔ w = v) := fun v hv => q_eq (by omega) (by omega)
  have h1 := h9 1 (by decide)
  have h2 := h9 2 (by decide)
  have h3 := h9 3 (by decide)
  have h0 := h9 0 (by decide)
  refine ⟨fun g1 => ⟨fun g2 => ⟨fun g3 => ⟨fun g0 => ?_, fun g0 => ?_⟩, fun g3 => ?_⟩, fun g2 => ?_⟩, fun g1 => ?_⟩
  · have e4 : w = 4 := by
      have a1 : w ≠ 1 := fun q => g1 (h1.mpr q)
      have a2 : w ≠ 2 := fun q => g2 (h2.mpr q)
      have a3 : w ≠ 3 := fun q => g3 (h3.mpr q)
      have a0 : w ≠ 0 := fun q => g0 (h0.mpr q)
      omega
    subst e4
    rw [show (4 : Int32) + nI e = nI (4 + e) from nI_add 4 e, q_cn (by omega), ht]
    exact ⟨q_vi (by omega) (by decide), h⟩
  · have : w = 0 := h0.mp g0
    subst this; exact h
  · have : w = 3 := h3.mp g3
    subst this; exact h
  · have : w = 2 := h2.mp g2
    subst this
    rw [hn, nI_1, pk_rem (by omega) (by omega) (by omega)]
    exact ⟨fun q => absurd ((q_eq (b := 0) (by omega) (by omega)).mp q) (by omega), h⟩
  · have : w = 1 := h1.mp g1
    subst this
    rw [hn, show nI n - 1 = nI (n - 1) from pk_sub (a := n) (b := 1) (by omega), pk_sub (by omega)]
    exact h
theorem l_wn_lt {w o n : Nat} (hn3 : n ≤ 3) (ho : ∀ d, d < n → o / 10 ^ d % 10 < n) {e v : Nat} (he : e < n) (h : l_wn w o n e = some v) : v < 3 := by
  unfold l_wn at h
  split at h
  · cases h; omega
  · cases h; omega
  · cases h; have := Nat.mod_lt (e + 1) (show 0 < n by omega); omega
  · cases h
  · cases h; have := ho e he; omega
/-- what the doors want, up to the last one -/
def l_wnB (w o n d : Nat) : Option Nat := if d < n then l_wn w o n d else none
theorem r_findsByLaw (hw : r_wf R C n kd nu dc wc) {d w o ks : Nat} {se : Nat → Nat} {M : q_M} {K : q_M → Prop} {wk : Option Nat} (hd : 17 ≤ d) (hb : r_b M R C n kd co nu) (hco : ∀ c, c < R * C → co c ≤ 9) (hs : r_st M (R * C) n w o ks se) (hwk : ∀ k, wk = some k → k < 2 ^ 31)
    (h : ∀ M', x_fr M M' → r_wys M' R C n kd nu dc → z_at M' n (R * C) co (fun dr => g_wy R C kd (dc dr)) (g_sb se ks) wk (g_fam g_bits (g_okW (l_wnB w o n) nu) (fun dr => g_wy R C kd (dc dr)) n 0 0) → K M') : q_Cv X d 122 [.ref 97, .int (g_oj wk)] M K := by
  have hn3 := hw.2.2.1
  obtain ⟨s1, s2, s3, s4, s5, s6⟩ := hs
  refine vc122 ?_
  have loop : ∀ (j i : Nat) (M1 : q_M), i + j = n → (∀ k, k ≠ 109 → M1 k = M k) → (∀ dr, dr < i → M1 109 dr = g_oj (l_wnB w o n dr)) → q_Ex X d 122 2 [some (.ref 97), some (.int (g_oj wk)), some (.int (nI i))] [] M1 (q_rn K) := by
    intro j
    induction j with
    | zero =>
      intro i M1 hi g1 g2
      refine vc122_p2 (by omega) ⟨fun _ => ?_, fun g => absurd ?_ g⟩
      · refine r_findsFamilies hw (wn := l_wnB w o n) (by omega) (hb.eq (g1 99 (by decide))) hco (by rw [g1 99 (by decide)]; exact s4) s5 (fun j hj => by rw [g1 99 (by decide)]; exact s6 j hj) hwk (fun dr v hv => ?_) (fun dr hdr => g2 dr (by omega)) (fun M' f1 f2 f3 => h M' ⟨fun k a b => by rw [f1.1 k a b, g1 k (by omega)], fun j a => by rw [f1.2 j a, g1 97 (by decide)]⟩ f2 f3)
        unfold l_wnB at hv
        split at hv
        next hlt => exact l_wn_lt hn3 (fun d hd => (s3 d hd).2) hlt hv
        next => cases hv
      · rw [g1 99 (by decide), hb.2.2.1, q_le (by omega) (by omega)]; omega
    | succ j ih =>
      intro i M1 hi g1 g2
      refine vc122_p2 (by omega) ⟨fun g => ?_, fun _ => ?_⟩
      · rw [g1 99 (by decide), hb.2.2.1, q_le (by omega) (by omega)] at g; omega
      · rw [g1 99 (by decide), s1]
        refine r_wellBy (o := o) (by rw [g1 99 (by decide)]; exact hb.2.2.1) hn3 s2 (by omega) (by rw [g1 99 (by decide)]; exact (s3 i (by omega)).1) ?_
        rw [q_cn (by omega), nI_1]
        refine ⟨q_vi (by omega) (by decide), ih (i + 1) _ (by omega) (fun k hk => by rw [q_set_n hk]; exact g1 k hk) (fun dr hdr => ?_)⟩
        rw [q_set_ap]
        by_cases q : dr = i
        · subst q; rw [if_pos ⟨rfl, rfl⟩]; unfold l_wnB; rw [if_pos (by omega)]
        · rw [if_neg (by omega)]; exact g2 dr (by omega)
  exact loop n 0 M (by omega) (fun _ _ => rfl) (fun dr h => by omega)
end RFind
