theorem t_cnt_app (a b : List (Option (List Nat))) : t_cnt (a ++ b) = t_cnt a + t_cnt b := by
  induction a with
  | nil => simp [t_cnt]
  | cons x r ih => cases x <;> simp [t_cnt, ih] <;> omega
theorem t_bits_app (a b : List (Option (List Nat))) : t_bits (a ++ b) = t_bits a ||| t_bits b := by
  induction a with
  | nil => simp [t_bits]
  | cons x r ih => cases x <;> simp [t_bits, ih, Nat.or_assoc]
theorem t_ord_app (nu : Nat → Nat) (a b : List (Option (List Nat))) : ∀ d, t_ord nu d (a ++ b) = t_ord nu d a + t_ord nu (d + a.length) b := by
  induction a with
  | nil => intro d; simp [t_ord]
  | cons x r ih =>
    intro d
    cases x with
    | none => simp only [List.cons_append, t_ord, ih (d + 1), List.length_cons]; rw [show d + 1 + r.length = d + (r.length + 1) by omega]
    | some p => simp only [List.cons_append, t_ord, ih (d + 1), List.length_cons]; rw [show d + 1 + r.length = d + (r.length + 1) by omega]; omega
theorem t_bits_lt {x : List (Option (List Nat))} {N : Nat} (h : ∀ q, some q ∈ x → ∀ c ∈ q, c < N) (hN : N ≤ 30) : t_bits x < 2 ^ 30 := by
  induction x with
  | nil => decide
  | cons a r ih =>
    have h1 := ih (fun q hq => h q (List.mem_cons_of_mem _ hq))
    cases a with
    | none => exact h1
    | some p => exact Nat.or_lt_two_pow (g_bits_31 (h p List.mem_cons_self) hN) h1
theorem t_ord_lt {nu : Nat → Nat} (x : List (Option (List Nat))) (h : ∀ q, some q ∈ x → nu (q.getLastD 0) < 3) : ∀ d, d + x.length ≤ 3 → t_ord nu d x ≤ 3 * 10 ^ 3 * x.length := by
  induction x with
  | nil => intro d _; exact Nat.zero_le _
  | cons a r ih =>
    intro d hd
    have h1 := ih (fun q hq => h q (List.mem_cons_of_mem _ hq)) (d + 1) (by simp at hd; omega)
    cases a with
    | none => simp only [t_ord, List.length_cons]; omega
    | some p =>
      have h2 := h p List.mem_cons_self
      simp only [t_ord, List.length_cons]
      simp at hd
      have h3 : 10 ^ d ≤ 10 ^ 3 := Nat.pow_le_pow_right (by decide) (by omega)
      have h4 : 10 ^ d * nu (p.getLastD 0) ≤ 10 ^ 3 * 3 := Nat.mul_le_mul h3 (by omega)
      omega
theorem g_sel_ok (Ws : Nat → List (List Nat)) : ∀ (k d s : Nat) (x : List (Option (List Nat))), x ∈ g_sel Ws k d s → x.length = k ∧ ∀ q, some q ∈ x → ∃ e, d ≤ e ∧ e < d + k ∧ q ∈ Ws e := by
  intro k
  induction k with
  | zero => intro d s x h; simp [g_sel] at h; subst h; exact ⟨rfl, fun q hq => by simp at hq⟩
  | succ k ih =>
    intro d s x h
    unfold g_sel at h
    rcases List.mem_append.mp h with h | h
    · obtain ⟨y, hy, rfl⟩ := List.mem_map.mp h
      obtain ⟨i1, i2⟩ := ih _ _ _ hy
      refine ⟨by simp [i1], fun q hq => ?_⟩
      rcases List.mem_cons.mp hq with e | hq
      · cases e
      · obtain ⟨e, e1, e2, e3⟩ := i2 q hq
        exact ⟨e, by omega, by omega, e3⟩
    · obtain ⟨p, hp, h2⟩ := List.mem_flatMap.mp h
      split at h2
      · obtain ⟨y, hy, rfl⟩ := List.mem_map.mp h2
        obtain ⟨i1, i2⟩ := ih _ _ _ hy
        refine ⟨by simp [i1], fun q hq => ?_⟩
        rcases List.mem_cons.mp hq with e | hq
        · cases e; exact ⟨d, by omega, by omega, hp⟩
        · obtain ⟨e, e1, e2, e3⟩ := i2 q hq
          exact ⟨e, by omega, by omega, e3⟩
      · simp at h2
theorem g_sel_cnt (Ws : Nat → List (List Nat)) : ∀ (k d s : Nat), (∀ e, e < d + k → (Ws e).length ≤ 126) → (g_sel Ws k d s).length ≤ 127 ^ k := by
  intro k
  induction k with
  | zero => intro d s _; simp [g_sel]
  | succ k ih =>
    intro d s h
    unfold g_sel
    have h1 : ∀ p ∈ Ws d, (if g_bits p &&& s == 0 then (g_sel Ws k (d + 1) (s ||| g_bits p)).map (some p :: ·) else []).length ≤ 127 ^ k := by
      intro p _
      split
      · rw [List.length_map]; exact ih (d + 1) _ (fun e he => h e (by omega))
      · simp
    have h2 := ih (d + 1) s (fun e he => h e (by omega))
    have h3 := g_fm_le _ _ _ h1
    have h4 : (Ws d).length * 127 ^ k ≤ 126 * 127 ^ k := Nat.mul_le_mul_right _ (h d (by omega))
    rw [List.length_append, List.length_map, Nat.pow_succ]
    omega
section Choose
variable {X : Nat × (Nat → Int32)} {R C n : Nat} {kd co nu dc wc : Nat → Nat}
theorem c_choose (hw : b_wf R C n kd co nu dc wc) {W : Nat → List (List Nat)} (hWl : ∀ dr, dr < n → (W dr).length ≤ 126) (hWp : ∀ dr, dr < n → ∀ p ∈ W dr, g_wyOk (R * C) n nu wc p) :
    ∀ (k d0 d : Nat) (pf : List (Option (List Nat))) (M : q_M) (S : List (List (Option (List Nat)))) (K : q_M → Prop), d0 + k = n → k + 6 ≤ d → pf.length = d0 → (∀ dr q, pf[dr]? = some (some q) → M 65 dr = nI (g_bits q)) → (∀ q, some q ∈ pf → (∀ c ∈ q, c < R * C) ∧ nu (q.getLastD 0) < 3) → b_now M R C n kd co nu dc wc → M 44 1 = nI n → (∀ dr, dr < n → w_at M 45 47 51 dr nu (W dr)) → u_at M n (R * C) co nu S → (∀ y ∈ S, y.length ≤ n ∧ t_bits y < 2 ^ 30) → (S ++ (g_sel W k d0 (t_bits pf)).map (pf ++ ·)).length < 2 ^ 30 →
    (∀ M', e_fr M M' d0 → u_at M' n (R * C) co nu (S ++ (g_sel W k d0 (t_bits pf)).map (pf ++ ·)) → K M') → q_Cv X d 31 [.ref 64, .int (nI d0), .int (nI (t_bits pf)), .int (nI (t_cnt pf)), .int (nI (t_ord nu 0 pf))] M K := by
  have hRC := b_RC hw
  have hn3 := hw.2.2.1
  intro k
  induction k with
  | zero =>
    intro d0 d pf M S K hk hd hpl hpk hpc hb hn hwa hu hSx hlen hK
    refine vc31 (by omega) ⟨fun g => ?_, fun _ => ?_⟩
    · rw [hn, q_lt (by omega) (by omega)] at g; omega
    · have e1 : (g_sel W 0 d0 (t_bits pf)).map (pf ++ ·) = [pf] := by simp [g_sel]
      rw [e1] at hlen hK
      have hol := t_ord_lt pf (fun q hq => (hpc q hq).2) 0 (by omega)
      refine c_meet hw (x := pf) (by omega) hb hn (by omega) (by simp at hlen; omega) hSx (fun q hq => (hpc q hq).1) (t_bits_lt (fun q hq => (hpc q hq).1) hRC) hpk (by omega) hu (fun M' f1 f2 => hK M' ⟨f1.1, fun dr hdr => f1.2 dr (by omega)⟩ f2)
  | succ k ih =>
    intro d0 d pf M S K hk hd hpl hpk hpc hb hn hwa hu hSx hlen hK
    have hd0 : d0 < n := by omega
    have hpb : t_bits pf < 2 ^ 30 := t_bits_lt (fun q hq => (hpc q hq).1) hRC
    have hcl := t_cnt_le pf
    have hol := t_ord_lt pf (fun q hq => (hpc q hq).2) 0 (by omega)
    have hWd := hWl d0 hd0
    have hSnew : ∀ (pf2 : List (Option (List Nat))) (s : Nat), pf2.length = d0 + 1 → (∀ q, some q ∈ pf2 → (∀ c ∈ q, c < R * C) ∧ nu (q.getLastD 0) < 3) → ∀ y ∈ (g_sel W k (d0 + 1) s).map (pf2 ++ ·), y.length ≤ n ∧ t_bits y < 2 ^ 30 := by
      intro pf2 s h1 h2 y hy
      obtain ⟨z, hz, rfl⟩ := List.mem_map.mp hy
      obtain ⟨z1, z2⟩ := g_sel_ok W k (d0 + 1) s z hz
      refine ⟨by simp [h1, z1]; omega, t_bits_lt (N := R * C) (fun q hq c hc => ?_) hRC⟩
      rcases List.mem_append.mp hq with h | h
      · exact (h2 q h).1 c hc
      · obtain ⟨e, e1, e2, e3⟩ := z2 q h
        exact (hWp e (by omega) q e3).1 c hc
    refine vc31 (by omega) ⟨fun _ => ?_, fun g => ?_⟩
    · have hpcn : ∀ q, some q ∈ pf ++ [none] → (∀ c ∈ q, c < R * C) ∧ nu (q.getLastD 0) < 3 := fun q hq => by
        rcases List.mem_append.mp hq with h | h
        · exact hpc q h
        · simp at h
      have en : (g_sel W (k + 1) d0 (t_bits pf)).map (pf ++ ·) = (g_sel W k (d0 + 1) (t_bits (pf ++ [none]))).map ((pf ++ [none]) ++ ·) ++ ((W d0).flatMap (fun p => if g_bits p &&& t_bits pf == 0 then (g_sel W k (d0 + 1) (t_bits pf ||| g_bits p)).map (some p :: ·) else [])).map (pf ++ ·) := by
        rw [g_sel, List.map_append, List.map_map, t_bits_app]
        congr 1
        · simp only [t_bits, Nat.or_zero]
          apply List.map_congr_left
          intro g _
          simp
      rw [en] at hlen hK
      have eb : t_bits (pf ++ [none]) = t_bits pf := by rw [t_bits_app]; simp [t_bits]
      have ec : t_cnt (pf ++ [none]) = t_cnt pf := by rw [t_cnt_app]; simp [t_cnt]
      have eo : t_ord nu 0 (pf ++ [none]) = t_ord nu 0 pf := by rw [t_ord_app]; simp [t_ord]
      rw [nI_1, ← ec, ← eo]
      have call1 := ih (d0 + 1) (d - 1) (pf ++ [none]) M S (fun M2 => q_Ex X d 31 34 [some (.ref 64), some (.int (nI d0)), some (.int (nI (t_bits pf))), some (.int (nI (t_cnt (pf ++ [none])))), some (.int (nI (t_ord nu 0 (pf ++ [none])))), some (.int 0), none] [] M2 (q_rn K)) (by omega) (by omega) (by simp [hpl]) (fun dr q hq => ?_) hpcn hb hn hwa hu hSx (by simp only [List.length_append] at hlen ⊢; omega)
      · rw [eb] at call1 hlen hK
        refine call1 (fun M2 f2 u2 => ?_)
        rw [ec, eo]
        -- the loop over the ways
        have loop : ∀ (j i : Nat) (M1 : q_M) (S1 : List (List (Option (List Nat)))), i + j = (W d0).length → e_fr M M1 d0 → u_at M1 n (R * C) co nu S1 → (∀ y ∈ S1, y.length ≤ n ∧ t_bits y < 2 ^ 30) →
            (S1 ++ (((W d0).drop i).flatMap (fun p => if g_bits p &&& t_bits pf == 0 then (g_sel W k (d0 + 1) (t_bits pf ||| g_bits p)).map (some p :: ·) else [])).map (pf ++ ·)).length < 2 ^ 30 →
            (∀ M', e_fr M M' d0 → u_at M' n (R * C) co nu (S1 ++ (((W d0).drop i).flatMap (fun p => if g_bits p &&& t_bits pf == 0 then (g_sel W k (d0 + 1) (t_bits pf ||| g_bits p)).map (some p :: ·) else [])).map (pf ++ ·)) → K M') →
            q_Ex X d 31 34 [some (.ref 64), some (.int (nI d0)), some (.int (nI (t_bits pf))), some (.int (nI (t_cnt pf))), some (.int (nI (t_ord nu 0 pf))), some (.int (nI i)), none] [] M1 (q_rn K) := by
          intro j
          induction j with
          | zero =>
            intro i M1 S1 hi hy hu1 hS1 hlen1 hK1
            refine vc31_p34 (by omega) ⟨q_vi (by omega) (by decide), fun _ => ?_, fun g => absurd ?_ g⟩
            · rw [List.drop_of_length_le (by omega)] at hK1
              exact hK1 M1 hy (by simpa using hu1)
            · rw [q_cn (by omega), hy.1 45 (by omega), (hwa d0 hd0).1, q_le (by omega) (by omega)]; omega
          | succ j ihj =>
            intro i M1 S1 hi hy hu1 hS1 hlen1 hK1
            have hil : i < (W d0).length := by omega
            obtain ⟨p, hp⟩ : ∃ p, (W d0)[i]? = some p := ⟨(W d0)[i], List.getElem?_eq_getElem hil⟩
            have hpm : p ∈ W d0 := List.mem_of_getElem? hp
            have hdrop : (W d0).drop i = p :: (W d0).drop (i + 1) := by
              rw [List.drop_eq_getElem_cons hil]
              rw [List.getElem?_eq_getElem hil] at hp
              cases hp; rfl
            obtain ⟨w1, w2, w3, w4⟩ := hWp d0 hd0 p hpm
            have hgb : g_bits p < 2 ^ 30 := g_bits_31 w1 hRC
            obtain ⟨v1, v2⟩ := (hwa d0 hd0).2 i p hp
            rw [hdrop, List.flatMap_cons, List.map_append] at hlen1 hK1
            have hv3 : vp_in (nI d0) 3 := q_vi (by omega) (by decide)
            have hvi : vp_in (nI i) 126 := q_vi (by omega) (by decide)
            have hand : g_bits p &&& t_bits pf ≤ t_bits pf := Nat.and_le_right
            refine vc31_p34 (by omega) ?_
            rw [q_cn (show d0 < 2 ^ 31 by omega), q_cn (show i < 2 ^ 31 by omega), hy.1 45 (by omega), (hwa d0 hd0).1, hy.1 (47 + d0) (by omega), v1, q_set_n (show 51 + d0 ≠ 65 by omega), hy.1 (51 + d0) (by omega), v2, n_and, n_or, nI_1, nI_1, nI_1, o_rc2 X (by omega), pk_mul, nI_add]
            refine ⟨hv3, fun g => absurd ((q_le (by omega) (by omega)).mp g) (by omega), fun _ => ⟨hv3, hvi, fun g => ?_, fun g => ⟨hv3, hv3, hv3, hvi, ?_⟩⟩⟩
            · have q : (g_bits p &&& t_bits pf == 0) = false := by
                have : ¬ g_bits p &&& t_bits pf = 0 := fun q => g (by rw [q]; rfl)
                simp [this]
              rw [q] at hlen1 hK1
              exact ihj (i + 1) M1 S1 (by omega) hy hu1 hS1 (by simpa using hlen1) (by simpa using hK1)
            · have q : (g_bits p &&& t_bits pf == 0) = true := by
                have : g_bits p &&& t_bits pf = 0 := (q_eq (b := 0) (by omega) (by omega)).mp g
                simp [this]
              rw [q, if_pos rfl] at hlen1 hK1
              have fb : t_bits (pf ++ [some p]) = t_bits pf ||| g_bits p := by rw [t_bits_app]; simp [t_bits]
              have fc : t_cnt (pf ++ [some p]) = t_cnt pf + 1 := by rw [t_cnt_app]; simp [t_cnt]
              have fo : t_ord nu 0 (pf ++ [some p]) = t_ord nu 0 pf + 10 ^ d0 * nu (p.getLastD 0) := by rw [t_ord_app, hpl]; simp [t_ord]
              have e3 : ((g_sel W k (d0 + 1) (t_bits pf ||| g_bits p)).map (some p :: ·)).map (pf ++ ·) = (g_sel W k (d0 + 1) (t_bits (pf ++ [some p]))).map ((pf ++ [some p]) ++ ·) := by
                rw [List.map_map, fb]
                apply List.map_congr_left
                intro g _
                simp
              rw [e3] at hlen1 hK1
              have hpcs : ∀ q, some q ∈ pf ++ [some p] → (∀ c ∈ q, c < R * C) ∧ nu (q.getLastD 0) < 3 := fun q hq => by
                rcases List.mem_append.mp hq with h | h
                · exact hpc q h
                · simp at h; subst h; exact ⟨w1, by omega⟩
              rw [← fb, ← fc, ← fo]
              refine ih (d0 + 1) (d - 1) (pf ++ [some p]) _ S1 _ (by omega) (by omega) (by simp [hpl]) (fun dr q hq => ?_) hpcs (hb.eq (fun k a b => by rw [q_set_n (by omega)]; exact hy.1 k (by omega))) (by rw [q_set_n (by decide), hy.1 44 (by omega)]; exact hn) (fun dr hdr => ?_) ?_ hS1 (by simp only [List.length_append] at hlen1 ⊢; omega) (fun M5 y5 z5 => ?_)
              · by_cases e : dr = d0
                · subst e
                  rw [List.getElem?_append_right (by omega)] at hq
                  simp [hpl] at hq
                  subst hq
                  simp [q_set_ap]
                · have hdr : dr < d0 := by
                    have := (List.getElem?_eq_some_iff.mp hq).1
                    simp [hpl] at this; omega
                  rw [List.getElem?_append_left (by omega)] at hq
                  rw [q_set_ap, if_neg (by omega), hy.2 dr hdr]
                  exact hpk dr q hq
              · have h0 := hwa dr hdr
                unfold w_at at h0 ⊢
                rw [q_set_n (by decide), q_set_n (show 47 + dr ≠ 65 by omega), q_set_n (show 51 + dr ≠ 65 by omega), hy.1 45 (by omega), hy.1 (47 + dr) (by omega), hy.1 (51 + dr) (by omega)]
                exact h0
              · obtain ⟨a1, a2, a3⟩ := hu1
                refine ⟨by rw [q_set_n (by decide)]; exact a1, by rw [q_set_n (by decide)]; exact a2, fun p' hp' => ?_⟩
                have := a3 p' hp'
                unfold s_p at this ⊢
                rw [q_set_n (by decide), q_set_n (by decide), q_set_n (show 69 + p' ≠ 65 by omega), q_set_n (show 79 + p' ≠ 65 by omega)]
                exact this
              · have y1 : e_fr M (q_set M1 65 d0 (nI (g_bits p))) d0 := ⟨fun q a => by rw [q_set_n (by omega)]; exact hy.1 q a, fun dr hdr => by rw [q_set_ap, if_neg (by omega)]; exact hy.2 dr hdr⟩
                refine ihj (i + 1) M5 _ (by omega) (y1.tr y5 (by omega)) z5 (fun g hg => ?_) (by rw [List.append_assoc]; exact hlen1) (fun M' a b => ?_)
                · rcases List.mem_append.mp hg with h | h
                  · exact hS1 g h
                  · exact hSnew _ _ (by simp [hpl]) hpcs g h
                · rw [List.append_assoc] at b
                  exact hK1 M' a b
        refine loop (W d0).length 0 M2 _ (by omega) ⟨f2.1, fun dr hdr => f2.2 dr (by omega)⟩ u2 (fun y hy => ?_) (by rw [List.drop_zero, List.append_assoc]; exact hlen) (fun M' a b => ?_)
        · rcases List.mem_append.mp hy with h | h
          · exact hSx y h
          · exact hSnew _ _ (by simp [hpl]) hpcn y h
        · rw [List.drop_zero, List.append_assoc] at b
          exact hK M' a b
      · have hdr : dr < d0 := by
          rcases Nat.lt_or_ge dr d0 with h | h
          · exact h
          · rw [List.getElem?_append_right (by omega)] at hq
            have : dr - pf.length = 0 ∨ 0 < dr - pf.length := by omega
            rcases this with e | e
            · rw [e] at hq; simp at hq
            · rw [List.getElem?_eq_none (by simp; omega)] at hq; cases hq
        rw [List.getElem?_append_left (by omega)] at hq
        exact hpk dr q hq
    · rw [hn, q_lt (by omega) (by omega)] at g; omega
end Choose
