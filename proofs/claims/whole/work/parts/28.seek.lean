
/-! the class's finders seek by a law -/
theorem fm_congr {α β : Type} {l : List α} {F G : α → List β} (h : ∀ p ∈ l, F p = G p) : l.flatMap F = l.flatMap G := by
  induction l with
  | nil => rfl
  | cons a r ih => rw [List.flatMap_cons, List.flatMap_cons, h a List.mem_cons_self, ih (fun p hp => h p (List.mem_cons_of_mem _ hp))]
theorem g_fam_congr {α : Type} (b : α → Nat) (ok ok2 : Nat → α → Bool) (Ws Ws2 : Nat → List α) : ∀ (k d s : Nat), (∀ e, d ≤ e → e < d + k → Ws e = Ws2 e) → (∀ e p, d ≤ e → e < d + k → p ∈ Ws e → ok e p = ok2 e p) → g_fam b ok Ws k d s = g_fam b ok2 Ws2 k d s := by
  intro k
  induction k with
  | zero => intro d s _ _; rfl
  | succ k ih =>
    intro d s hW h
    unfold g_fam
    rw [← hW d (by omega) (by omega)]
    refine fm_congr (fun p hp => ?_)
    rw [h d p (Nat.le_refl _) (by omega) hp, ih (d + 1) (s ||| b p) (fun e h1 h2 => hW e (by omega) (by omega)) (fun e q h1 h2 hq => h e q (by omega) (by omega) hq)]
theorem g_law_mask {N n w o : Nat} {nu wc : Nat → Nat} {W : Nat → List (List Nat)} (hWp : ∀ dr, dr < n → ∀ p ∈ W dr, g_wyOk N n nu wc p) : (g_fam g_bits (fun d p => (l_mask w o n d).testBit (nu (p.getLastD 0))) W n 0 (f_bits [])).map ([] ++ ·) = g_law W nu w o n := by
  have e1 : g_fam g_bits (fun d p => (l_mask w o n d).testBit (nu (p.getLastD 0))) W n 0 0 = g_law W nu w o n := by
    refine g_fam_congr _ _ _ W W n 0 0 (fun _ _ _ => rfl) (fun e p _ he hp => ?_)
    have he2 : e < n := by omega
    rw [l_mask_tb (hWp e he2 p hp).2.2.1]
    unfold g_okW l_wnB
    rw [if_pos he2]
    cases l_wn w o n e <;> rfl
  rw [show f_bits [] = 0 from rfl, e1]
  simp
section Seek
variable {X : Nat × (Nat → Int32)} {N n : Nat} {nu wc : Nat → Nat}

theorem c_seek88 {W : Nat → List (List Nat)} {w o nd stop d : Nat} {M : q_M} {K : Int32 → q_M → Prop} (hd : 6 ≤ d) (hN : N ≤ 30) (hn3 : n ≤ 3) (hWl : ∀ dr, dr < n → (W dr).length ≤ 126) (hWp : ∀ dr, dr < n → ∀ p ∈ W dr, g_wyOk N n nu wc p) (hw5 : w < 5) (ho : o < 1000) (hdg : ∀ d, d < n → o / 10 ^ d % 10 < n) (hnd : nd < 2 ^ 30) (hst0 : 0 < stop) (hst : stop < 2 ^ 31) (hn : M 44 1 = nI n) (hwa : ∀ dr, dr < n → w_at M 45 47 51 dr nu (W dr))
    (h : ∀ M', (∀ k, k ≠ 88 → k ≠ 89 → k ≠ 90 → M' k = M k) → (∀ f, (v_run nd stop 0 (g_law W nu w o n)).2 = some f → ∀ dr q, f[dr]? = some q → M' 89 dr = nI (g_bits q)) → K (nI (v_run nd stop 0 (g_law W nu w o n)).1) M') : q_Ci X d 1 [.ref 88, .ref (39 + w), .int (nI o), .int (nI nd), .int (nI stop)] M K := by
  refine vc1_88 ?_
  have loop : ∀ (j i : Nat) (M1 : q_M), i + j = n → (∀ k, k ≠ 90 → M1 k = M k) → (∀ e, e < i → M1 90 e = nI (l_mask w o n e)) → q_Ex X d 1 3 [some (.ref 88), some (.ref (39 + w)), some (.int (nI o)), some (.int (nI nd)), some (.int (nI stop)), some (.int (nI i))] [] M1 (q_ri K) := by
    intro j
    induction j with
    | zero =>
      intro i M1 hi g1 g2
      refine vc1_88_p3 (by omega) ⟨fun _ => ?_, fun g => absurd (by rw [g1 44 (by decide), hn, q_le (by omega) (by omega)]; omega) g⟩
      refine c_pick88 (N := N) (W := W) (mask := l_mask w o n) (nd := nd) (stop := stop) hN hn3 hWl hWp (fun dr hdr => l_mask_lt hn3 hdg hdr) hnd hst n 0 (d - 1) 0 [] _ _ (by omega) (by omega) rfl (fun dr q hq => by simp at hq) (fun p hp => by simp at hp) (by rw [q_set_n (by decide), q_set_n (by decide), q_set_n (by decide), g1 44 (by decide)]; exact hn) (fun dr hdr => ?_) (fun dr hdr => by rw [q_set_n (by decide), q_set_n (by decide), q_set_n (by decide)]; exact g2 dr (by omega)) (by simp [q_set_ap]) (by simp [q_set_ap]) (by rw [q_set_ap, if_pos ⟨rfl, rfl⟩]; rfl) hst0 (fun M' y7 a7 b7 => ?_)
      · have h0 := hwa dr hdr
        unfold w_at at h0 ⊢
        rw [q_set_n (by decide), q_set_n (by decide), q_set_n (by decide), q_set_n (show 47 + dr ≠ 88 by omega), q_set_n (show 47 + dr ≠ 88 by omega), q_set_n (show 47 + dr ≠ 88 by omega), q_set_n (show 51 + dr ≠ 88 by omega), q_set_n (show 51 + dr ≠ 88 by omega), q_set_n (show 51 + dr ≠ 88 by omega), g1 45 (by decide), g1 (47 + dr) (by omega), g1 (51 + dr) (by omega)]
        exact h0
      · rw [g_law_mask hWp] at a7 b7
        rw [a7]
        refine h M' (fun k e1 e2 e3 => ?_) b7
        rw [y7.1 k e1 e2, q_set_n e1, q_set_n e1, q_set_n e1, g1 k e3]
    | succ j ih =>
      intro i M1 hi g1 g2
      refine vc1_88_p3 (by omega) ⟨fun g => ?_, fun _ => ?_⟩
      · rw [g1 44 (by decide), hn, q_le (by omega) (by omega)] at g; omega
      · rw [g1 44 (by decide), hn, q_cn (by omega), nI_1]
        refine c_wfV1 hw5 (by omega) hn3 (by omega) (by omega) hdg ⟨q_vi (by omega) (by decide), ?_⟩
        refine ih (i + 1) _ (by omega) (fun k hk => by rw [q_set_n hk]; exact g1 k hk) (fun e he => ?_)
        rw [q_set_ap]
        by_cases q : e = i
        · subst q; rw [if_pos ⟨rfl, rfl⟩]
        · rw [if_neg (fun x => q x.2)]; exact g2 e (by omega)
  exact loop n 0 M (by omega) (fun _ _ => rfl) (fun e he => by omega)

theorem c_seek91 {W : Nat → List (List Nat)} {w o nd stop d : Nat} {M : q_M} {K : Int32 → q_M → Prop} (hd : 6 ≤ d) (hN : N ≤ 30) (hn3 : n ≤ 3) (hWl : ∀ dr, dr < n → (W dr).length ≤ 126) (hWp : ∀ dr, dr < n → ∀ p ∈ W dr, g_wyOk N n nu wc p) (hw5 : w < 5) (ho : o < 1000) (hdg : ∀ d, d < n → o / 10 ^ d % 10 < n) (hnd : nd < 2 ^ 30) (hst0 : 0 < stop) (hst : stop < 2 ^ 31) (hn : M 44 1 = nI n) (hwa : ∀ dr, dr < n → w_at M 45 47 51 dr nu (W dr))
    (h : ∀ M', (∀ k, k ≠ 91 → k ≠ 92 → k ≠ 93 → M' k = M k) → (∀ f, (v_run nd stop 0 (g_law W nu w o n)).2 = some f → ∀ dr q, f[dr]? = some q → M' 92 dr = nI (g_bits q)) → K (nI (v_run nd stop 0 (g_law W nu w o n)).1) M') : q_Ci X d 1 [.ref 91, .ref (39 + w), .int (nI o), .int (nI nd), .int (nI stop)] M K := by
  refine vc1_91 ?_
  have loop : ∀ (j i : Nat) (M1 : q_M), i + j = n → (∀ k, k ≠ 93 → M1 k = M k) → (∀ e, e < i → M1 93 e = nI (l_mask w o n e)) → q_Ex X d 1 3 [some (.ref 91), some (.ref (39 + w)), some (.int (nI o)), some (.int (nI nd)), some (.int (nI stop)), some (.int (nI i))] [] M1 (q_ri K) := by
    intro j
    induction j with
    | zero =>
      intro i M1 hi g1 g2
      refine vc1_91_p3 (by omega) ⟨fun _ => ?_, fun g => absurd (by rw [g1 44 (by decide), hn, q_le (by omega) (by omega)]; omega) g⟩
      refine c_pick91 (N := N) (W := W) (mask := l_mask w o n) (nd := nd) (stop := stop) hN hn3 hWl hWp (fun dr hdr => l_mask_lt hn3 hdg hdr) hnd hst n 0 (d - 1) 0 [] _ _ (by omega) (by omega) rfl (fun dr q hq => by simp at hq) (fun p hp => by simp at hp) (by rw [q_set_n (by decide), q_set_n (by decide), q_set_n (by decide), g1 44 (by decide)]; exact hn) (fun dr hdr => ?_) (fun dr hdr => by rw [q_set_n (by decide), q_set_n (by decide), q_set_n (by decide)]; exact g2 dr (by omega)) (by simp [q_set_ap]) (by simp [q_set_ap]) (by rw [q_set_ap, if_pos ⟨rfl, rfl⟩]; rfl) hst0 (fun M' y7 a7 b7 => ?_)
      · have h0 := hwa dr hdr
        unfold w_at at h0 ⊢
        rw [q_set_n (by decide), q_set_n (by decide), q_set_n (by decide), q_set_n (show 47 + dr ≠ 91 by omega), q_set_n (show 47 + dr ≠ 91 by omega), q_set_n (show 47 + dr ≠ 91 by omega), q_set_n (show 51 + dr ≠ 91 by omega), q_set_n (show 51 + dr ≠ 91 by omega), q_set_n (show 51 + dr ≠ 91 by omega), g1 45 (by decide), g1 (47 + dr) (by omega), g1 (51 + dr) (by omega)]
        exact h0
      · rw [g_law_mask hWp] at a7 b7
        rw [a7]
        refine h M' (fun k e1 e2 e3 => ?_) b7
        rw [y7.1 k e1 e2, q_set_n e1, q_set_n e1, q_set_n e1, g1 k e3]
    | succ j ih =>
      intro i M1 hi g1 g2
      refine vc1_91_p3 (by omega) ⟨fun g => ?_, fun _ => ?_⟩
      · rw [g1 44 (by decide), hn, q_le (by omega) (by omega)] at g; omega
      · rw [g1 44 (by decide), hn, q_cn (by omega), nI_1]
        refine c_wfV1 hw5 (by omega) hn3 (by omega) (by omega) hdg ⟨q_vi (by omega) (by decide), ?_⟩
        refine ih (i + 1) _ (by omega) (fun k hk => by rw [q_set_n hk]; exact g1 k hk) (fun e he => ?_)
        rw [q_set_ap]
        by_cases q : e = i
        · subst q; rw [if_pos ⟨rfl, rfl⟩]
        · rw [if_neg (fun x => q x.2)]; exact g2 e (by omega)
  exact loop n 0 M (by omega) (fun _ _ => rfl) (fun e he => by omega)

theorem c_seek94 {W : Nat → List (List Nat)} {w o nd stop d : Nat} {M : q_M} {K : Int32 → q_M → Prop} (hd : 6 ≤ d) (hN : N ≤ 30) (hn3 : n ≤ 3) (hWl : ∀ dr, dr < n → (W dr).length ≤ 126) (hWp : ∀ dr, dr < n → ∀ p ∈ W dr, g_wyOk N n nu wc p) (hw5 : w < 5) (ho : o < 1000) (hdg : ∀ d, d < n → o / 10 ^ d % 10 < n) (hnd : nd < 2 ^ 30) (hst0 : 0 < stop) (hst : stop < 2 ^ 31) (hn : M 54 1 = nI n) (hwa : ∀ dr, dr < n → w_at M 55 57 61 dr nu (W dr))
    (h : ∀ M', (∀ k, k ≠ 94 → k ≠ 95 → k ≠ 96 → M' k = M k) → (∀ f, (v_run nd stop 0 (g_law W nu w o n)).2 = some f → ∀ dr q, f[dr]? = some q → M' 95 dr = nI (g_bits q)) → K (nI (v_run nd stop 0 (g_law W nu w o n)).1) M') : q_Ci X d 1 [.ref 94, .ref (39 + w), .int (nI o), .int (nI nd), .int (nI stop)] M K := by
  refine vc1_94 ?_
  have loop : ∀ (j i : Nat) (M1 : q_M), i + j = n → (∀ k, k ≠ 96 → M1 k = M k) → (∀ e, e < i → M1 96 e = nI (l_mask w o n e)) → q_Ex X d 1 3 [some (.ref 94), some (.ref (39 + w)), some (.int (nI o)), some (.int (nI nd)), some (.int (nI stop)), some (.int (nI i))] [] M1 (q_ri K) := by
    intro j
    induction j with
    | zero =>
      intro i M1 hi g1 g2
      refine vc1_94_p3 (by omega) ⟨fun _ => ?_, fun g => absurd (by rw [g1 54 (by decide), hn, q_le (by omega) (by omega)]; omega) g⟩
      refine c_pick94 (N := N) (W := W) (mask := l_mask w o n) (nd := nd) (stop := stop) hN hn3 hWl hWp (fun dr hdr => l_mask_lt hn3 hdg hdr) hnd hst n 0 (d - 1) 0 [] _ _ (by omega) (by omega) rfl (fun dr q hq => by simp at hq) (fun p hp => by simp at hp) (by rw [q_set_n (by decide), q_set_n (by decide), q_set_n (by decide), g1 54 (by decide)]; exact hn) (fun dr hdr => ?_) (fun dr hdr => by rw [q_set_n (by decide), q_set_n (by decide), q_set_n (by decide)]; exact g2 dr (by omega)) (by simp [q_set_ap]) (by simp [q_set_ap]) (by rw [q_set_ap, if_pos ⟨rfl, rfl⟩]; rfl) hst0 (fun M' y7 a7 b7 => ?_)
      · have h0 := hwa dr hdr
        unfold w_at at h0 ⊢
        rw [q_set_n (by decide), q_set_n (by decide), q_set_n (by decide), q_set_n (show 57 + dr ≠ 94 by omega), q_set_n (show 57 + dr ≠ 94 by omega), q_set_n (show 57 + dr ≠ 94 by omega), q_set_n (show 61 + dr ≠ 94 by omega), q_set_n (show 61 + dr ≠ 94 by omega), q_set_n (show 61 + dr ≠ 94 by omega), g1 55 (by decide), g1 (57 + dr) (by omega), g1 (61 + dr) (by omega)]
        exact h0
      · rw [g_law_mask hWp] at a7 b7
        rw [a7]
        refine h M' (fun k e1 e2 e3 => ?_) b7
        rw [y7.1 k e1 e2, q_set_n e1, q_set_n e1, q_set_n e1, g1 k e3]
    | succ j ih =>
      intro i M1 hi g1 g2
      refine vc1_94_p3 (by omega) ⟨fun g => ?_, fun _ => ?_⟩
      · rw [g1 54 (by decide), hn, q_le (by omega) (by omega)] at g; omega
      · rw [g1 54 (by decide), hn, q_cn (by omega), nI_1]
        refine c_wfV1 hw5 (by omega) hn3 (by omega) (by omega) hdg ⟨q_vi (by omega) (by decide), ?_⟩
        refine ih (i + 1) _ (by omega) (fun k hk => by rw [q_set_n hk]; exact g1 k hk) (fun e he => ?_)
        rw [q_set_ap]
        by_cases q : e = i
        · subst q; rw [if_pos ⟨rfl, rfl⟩]
        · rw [if_neg (fun x => q x.2)]; exact g2 e (by omega)
  exact loop n 0 M (by omega) (fun _ _ => rfl) (fun e he => by omega)
end Seek
