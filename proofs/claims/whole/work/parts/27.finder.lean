
/-! the class's finders -/
def v_run (nd stop : Nat) : Nat → List (List (List Nat)) → Nat × Option (List (List Nat))
  | m, [] => (m, none)
  | m, f :: r => if f_bits f &&& nd = nd then (if m + 1 = stop then (m + 1, some f) else v_run nd stop (m + 1) r) else v_run nd stop m r
theorem v_run_app (nd stop : Nat) (A B : List (List (List Nat))) : ∀ m, v_run nd stop m (A ++ B) = (match (v_run nd stop m A).2 with | some _ => v_run nd stop m A | none => v_run nd stop (v_run nd stop m A).1 B) := by
  induction A with
  | nil => intro m; rfl
  | cons f r ih =>
    intro m
    rw [List.cons_append, v_run, v_run]
    by_cases h : f_bits f &&& nd = nd
    · rw [if_pos h, if_pos h]
      by_cases h2 : m + 1 = stop
      · rw [if_pos h2, if_pos h2]
      · rw [if_neg h2, if_neg h2]; exact ih (m + 1)
    · rw [if_neg h, if_neg h]; exact ih m
theorem v_run_lt (nd stop : Nat) (A : List (List (List Nat))) : ∀ m, m < stop → ((v_run nd stop m A).2 = none → (v_run nd stop m A).1 < stop) ∧ (∀ f, (v_run nd stop m A).2 = some f → (v_run nd stop m A).1 = stop) ∧ (v_run nd stop m A).1 ≤ stop := by
  induction A with
  | nil => intro m hm; exact ⟨fun _ => hm, (fun f h => by cases h), Nat.le_of_lt hm⟩
  | cons f r ih =>
    intro m hm
    rw [v_run]
    by_cases h : f_bits f &&& nd = nd
    · rw [if_pos h]
      by_cases h2 : m + 1 = stop
      · rw [if_pos h2]; exact ⟨(fun h => by cases h), (fun _ _ => h2), by rw [h2]; exact Nat.le_refl _⟩
      · rw [if_neg h2]; exact ih (m + 1) (by omega)
    · rw [if_neg h]; exact ih m hm
theorem v_run_fit (nd stop : Nat) (A : List (List (List Nat))) : ∀ m, m + z_fit A nd < stop → v_run nd stop m A = (m + z_fit A nd, none) := by
  induction A with
  | nil => intro m _; rfl
  | cons f r ih =>
    intro m hm
    have e : z_fit (f :: r) nd = (if f_bits f &&& nd == nd then 1 else 0) + z_fit r nd := by
      unfold z_fit
      rw [List.filter_cons]
      by_cases h : (f_bits f &&& nd == nd) = true
      · rw [if_pos h, if_pos h, List.length_cons]; omega
      · rw [if_neg h, if_neg h]; omega
    rw [e] at hm ⊢
    rw [v_run]
    by_cases h : f_bits f &&& nd = nd
    · have hc : (f_bits f &&& nd == nd) = true := by simpa using h
      rw [if_pos h]
      rw [if_pos hc] at hm ⊢
      rw [if_neg (by omega), ih (m + 1) (by omega)]
      congr 1; omega
    · have hc : ¬ (f_bits f &&& nd == nd) = true := by simpa using h
      rw [if_neg h]
      rw [if_neg hc] at hm ⊢
      rw [ih m (by omega)]
      congr 1; omega
theorem v_run_all (stop : Nat) (A : List (List (List Nat))) : ∀ (m k : Nat) (f : List (List Nat)), stop = m + k + 1 → A[k]? = some f → v_run 0 stop m A = (stop, some f) := by
  induction A with
  | nil => intro m k f _ h; simp at h
  | cons g r ih =>
    intro m k f hs hf
    rw [v_run, if_pos (Nat.and_zero _)]
    cases k with
    | zero => simp at hf; subst hf; rw [if_pos (by omega)]; congr 1; omega
    | succ k => rw [if_neg (by omega)]; exact ih (m + 1) k f (by omega) (by simpa using hf)
section Finder
variable {X : Nat × (Nat → Int32)} {N n : Nat} {nu wc : Nat → Nat}

def x_fr88 (M M' : q_M) (d0 : Nat) : Prop := (∀ k, k ≠ 88 → k ≠ 89 → M' k = M k) ∧ (∀ j, j ≠ 5 → M' 88 j = M 88 j) ∧ ∀ dr, dr < d0 → M' 89 dr = M 89 dr
theorem x_fr88.tr {A B D : q_M} {d0 d1 : Nat} (h : x_fr88 A B d0) (h2 : x_fr88 B D d1) (hd : d0 ≤ d1) : x_fr88 A D d0 := ⟨fun k a b => (h2.1 k a b).trans (h.1 k a b), fun j a => (h2.2.1 j a).trans (h.2.1 j a), fun dr hdr => (h2.2.2 dr (by omega)).trans (h.2.2 dr hdr)⟩
theorem c_pick88 {W : Nat → List (List Nat)} {mask : Nat → Nat} {nd stop : Nat} (hN : N ≤ 30) (hn3 : n ≤ 3) (hWl : ∀ dr, dr < n → (W dr).length ≤ 126) (hWp : ∀ dr, dr < n → ∀ p ∈ W dr, g_wyOk N n nu wc p) (hmk : ∀ dr, dr < n → mask dr < 8) (hnd : nd < 2 ^ 30) (hst : stop < 2 ^ 31) :
    ∀ (k d0 d m : Nat) (pf : List (List Nat)) (M : q_M) (K : q_M → Prop), d0 + k = n → k + 1 ≤ d → pf.length = d0 → (∀ dr q, pf[dr]? = some q → M 89 dr = nI (g_bits q)) → (∀ p ∈ pf, ∀ c ∈ p, c < N) → M 44 1 = nI n → (∀ dr, dr < n → w_at M 45 47 51 dr nu (W dr)) → (∀ dr, dr < n → M 90 dr = nI (mask dr)) → M 88 3 = nI nd → M 88 4 = nI stop → M 88 5 = nI m → m < stop →
    (∀ M', x_fr88 M M' d0 → M' 88 5 = nI (v_run nd stop m ((g_fam g_bits (fun d p => (mask d).testBit (nu (p.getLastD 0))) W k d0 (f_bits pf)).map (pf ++ ·))).1 → (∀ f, (v_run nd stop m ((g_fam g_bits (fun d p => (mask d).testBit (nu (p.getLastD 0))) W k d0 (f_bits pf)).map (pf ++ ·))).2 = some f → ∀ dr q, f[dr]? = some q → M' 89 dr = nI (g_bits q)) → K M') → q_Cv X d 2 [.ref 88, .int (nI d0), .int (nI (f_bits pf))] M K := by
  intro k
  induction k with
  | zero =>
    intro d0 d m pf M K hk hd hpl hpk hpc hn hwa hop h3 h4 h5 hm hK
    have hpb := f_bits_lt hpc hN
    have hand : f_bits pf &&& nd ≤ nd := Nat.and_le_right
    have e1 : (g_fam g_bits (fun d p => (mask d).testBit (nu (p.getLastD 0))) W 0 d0 (f_bits pf)).map (pf ++ ·) = [pf] := by simp [g_fam]
    rw [e1] at hK
    refine vc2_88 ⟨fun g => ?_, fun _ => ?_⟩
    · rw [hn, q_lt (by omega) (by omega)] at g; omega
    · rw [h3, n_and, q_eq (by omega) (by omega), h5, nI_1]
      refine ⟨fun g => ?_, fun g => ?_⟩
      · have er : v_run nd stop m [pf] = (m, none) := by rw [v_run, if_neg g]; rfl
        rw [er] at hK
        exact hK M ⟨fun _ _ _ => rfl, fun _ _ => rfl, fun _ _ => rfl⟩ h5 (fun f h => by cases h)
      · have er : (v_run nd stop m [pf]).1 = m + 1 ∧ ∀ f, (v_run nd stop m [pf]).2 = some f → f = pf := by
          rw [v_run, if_pos g]
          by_cases e : m + 1 = stop
          · rw [if_pos e]; exact ⟨rfl, fun f h => by cases h; rfl⟩
          · rw [if_neg e]; exact ⟨rfl, fun f h => by cases h⟩
        rw [er.1] at hK
        refine hK _ ⟨fun k a b => q_set_n a, fun j a => by rw [q_set_ap, if_neg (by omega)], fun dr hdr => by rw [q_set_n (by decide)]⟩ (by rw [q_set_ap, if_pos ⟨rfl, rfl⟩]) (fun f hf dr q hq => ?_)
        rw [er.2 f hf] at hq
        rw [q_set_n (by decide)]
        exact hpk dr q hq
  | succ k ih =>
    intro d0 d m pf M K hk hd hpl hpk hpc hn hwa hop h3 h4 h5 hm hK
    have hd0 : d0 < n := by omega
    have hpb := f_bits_lt hpc hN
    have hWd := hWl d0 hd0
    have hmk0 := hmk d0 hd0
    refine vc2_88 ⟨fun _ => ?_, fun g => ?_⟩
    · have loop : ∀ (j i m1 : Nat) (M1 : q_M), i + j = (W d0).length → x_fr88 M M1 d0 → M1 88 5 = nI m1 → m1 < stop →
          (∀ M', x_fr88 M M' d0 → M' 88 5 = nI (v_run nd stop m1 ((((W d0).drop i).flatMap (fun p => if (mask d0).testBit (nu (p.getLastD 0)) && (g_bits p &&& f_bits pf == 0) then (g_fam g_bits (fun d p => (mask d).testBit (nu (p.getLastD 0))) W k (d0 + 1) (f_bits pf ||| g_bits p)).map (p :: ·) else [])).map (pf ++ ·))).1 → (∀ f, (v_run nd stop m1 ((((W d0).drop i).flatMap (fun p => if (mask d0).testBit (nu (p.getLastD 0)) && (g_bits p &&& f_bits pf == 0) then (g_fam g_bits (fun d p => (mask d).testBit (nu (p.getLastD 0))) W k (d0 + 1) (f_bits pf ||| g_bits p)).map (p :: ·) else [])).map (pf ++ ·))).2 = some f → ∀ dr q, f[dr]? = some q → M' 89 dr = nI (g_bits q)) → K M') →
          q_Ex X d 2 37 [some (.ref 88), some (.int (nI d0)), some (.int (nI (f_bits pf))), some (.int (nI i)), none] [] M1 (q_rn K) := by
        intro j
        induction j with
        | zero =>
          intro i m1 M1 hi hy h5a hm1 hK1
          refine vc2_88_p37 (by omega) ⟨q_vi (by omega) (by decide), fun _ => ?_, fun g => absurd ?_ g⟩
          · rw [List.drop_of_length_le (by omega)] at hK1
            exact hK1 M1 hy h5a (fun f h => by cases h)
          · rw [q_cn (by omega), hy.1 45 (by decide) (by decide), (hwa d0 hd0).1, q_le (by omega) (by omega)]; omega
        | succ j ihj =>
          intro i m1 M1 hi hy h5a hm1 hK1
          have hil : i < (W d0).length := by omega
          obtain ⟨p, hp⟩ : ∃ p, (W d0)[i]? = some p := ⟨(W d0)[i], List.getElem?_eq_getElem hil⟩
          have hpm : p ∈ W d0 := List.mem_of_getElem? hp
          have hdrop : (W d0).drop i = p :: (W d0).drop (i + 1) := by
            rw [List.drop_eq_getElem_cons hil]
            rw [List.getElem?_eq_getElem hil] at hp
            cases hp; rfl
          obtain ⟨w1, w2, w3, w4⟩ := hWp d0 hd0 p hpm
          have hgb : g_bits p < 2 ^ 30 := g_bits_31 w1 hN
          obtain ⟨v1, v2⟩ := (hwa d0 hd0).2 i p hp
          rw [hdrop, List.flatMap_cons, List.map_append] at hK1
          have hv3 : vp_in (nI d0) 3 := q_vi (by omega) (by decide)
          have hvi : vp_in (nI i) 126 := q_vi (by omega) (by decide)
          have hand : g_bits p &&& f_bits pf ≤ f_bits pf := Nat.and_le_right
          refine vc2_88_p37 (by omega) ?_
          rw [q_cn (show d0 < 2 ^ 31 by omega), q_cn (show i < 2 ^ 31 by omega), hy.1 45 (by decide) (by decide), (hwa d0 hd0).1, hy.2.1 4 (by decide), h4, h5a, hy.1 (47 + d0) (by omega) (by omega), v1, hy.1 (51 + d0) (by omega) (by omega), v2, hy.1 90 (by decide) (by decide), hop d0 hd0, n_and, n_or, nI_1, nI_1, n_bit0 (by omega) (by omega)]
          have skip : ((mask d0).testBit (nu (p.getLastD 0)) && (g_bits p &&& f_bits pf == 0)) = false → q_Ex X d 2 37 [some (.ref 88), some (.int (nI d0)), some (.int (nI (f_bits pf))), some (.int (nI (i + 1))), none] [] M1 (q_rn K) := by
            intro q
            rw [q] at hK1
            exact ihj (i + 1) m1 M1 (by omega) hy h5a hm1 (by simpa using hK1)
          refine ⟨hv3, fun g => absurd ((q_le (by omega) (by omega)).mp g) (by omega), fun _ => ⟨fun g => absurd ((q_le hst (by omega)).mp g) (by omega), fun _ => ⟨hv3, hvi, fun g => skip ?_, fun g => ⟨hv3, hv3, hvi, fun g2 => skip (by rw [g2]; rfl), fun g2 => ⟨hv3, ?_⟩⟩⟩⟩⟩
          · have : ¬ g_bits p &&& f_bits pf = 0 := fun q => g (by rw [q]; rfl)
            rw [show (g_bits p &&& f_bits pf == 0) = false by simp [this], Bool.and_false]
          · have q1 : g_bits p &&& f_bits pf = 0 := (q_eq (b := 0) (by omega) (by omega)).mp g
            have q2 : (mask d0).testBit (nu (p.getLastD 0)) = true := by
              cases hb : (mask d0).testBit (nu (p.getLastD 0)) with
              | true => rfl
              | false => exact absurd hb g2
            rw [q2, q1] at hK1
            simp only [BEq.rfl, Bool.and_self, if_true] at hK1
            have e3 : ((g_fam g_bits (fun d p => (mask d).testBit (nu (p.getLastD 0))) W k (d0 + 1) (f_bits pf ||| g_bits p)).map (p :: ·)).map (pf ++ ·) = (g_fam g_bits (fun d p => (mask d).testBit (nu (p.getLastD 0))) W k (d0 + 1) (f_bits (pf ++ [p]))).map ((pf ++ [p]) ++ ·) := by
              rw [List.map_map, f_bits_snoc]
              apply List.map_congr_left
              intro g _
              simp
            rw [e3, v_run_app] at hK1
            rw [← f_bits_snoc]
            refine ih (d0 + 1) (d - 1) m1 (pf ++ [p]) _ _ (by omega) (by omega) (by simp [hpl]) (fun dr q hq => ?_) (fun x hx => ?_) (by rw [q_set_n (by decide), hy.1 44 (by decide) (by decide)]; exact hn) (fun dr hdr => ?_) (fun dr hdr => by rw [q_set_n (by decide), hy.1 90 (by decide) (by decide)]; exact hop dr hdr) (by rw [q_set_n (by decide), hy.2.1 3 (by decide)]; exact h3) (by rw [q_set_n (by decide), hy.2.1 4 (by decide)]; exact h4) (by rw [q_set_n (by decide)]; exact h5a) hm1 (fun M7 y7 a7 b7 => ?_)
            · by_cases e : dr = d0
              · subst e
                rw [List.getElem?_append_right (by omega)] at hq
                simp [hpl] at hq
                subst hq
                simp [q_set_ap]
              · have hdr : dr < d0 := by
                  have := (List.getElem?_eq_some_iff.mp hq).1
                  simp [hpl] at this; omega
                rw [List.getElem?_append_left (by omega)] at hq
                rw [q_set_ap, if_neg (by omega), hy.2.2 dr hdr]
                exact hpk dr q hq
            · rcases List.mem_append.mp hx with h | h
              · exact hpc x h
              · simp at h; subst h; exact w1
            · have h0 := hwa dr hdr
              unfold w_at at h0 ⊢
              rw [q_set_n (by decide), q_set_n (show 47 + dr ≠ 89 by omega), q_set_n (show 51 + dr ≠ 89 by omega), hy.1 45 (by decide) (by decide), hy.1 (47 + dr) (by omega) (by omega), hy.1 (51 + dr) (by omega) (by omega)]
              exact h0
            · have y1 : x_fr88 M (q_set M1 89 d0 (nI (g_bits p))) d0 := ⟨fun q a b => by rw [q_set_n b]; exact hy.1 q a b, fun j a => by rw [q_set_n (by decide)]; exact hy.2.1 j a, fun dr hdr => by rw [q_set_ap, if_neg (by omega)]; exact hy.2.2 dr hdr⟩
              have y8 := y1.tr y7 (by omega)
              obtain ⟨r1, r2, r3⟩ := v_run_lt nd stop ((g_fam g_bits (fun d p => (mask d).testBit (nu (p.getLastD 0))) W k (d0 + 1) (f_bits (pf ++ [p]))).map ((pf ++ [p]) ++ ·)) m1 hm1
              cases hr : (v_run nd stop m1 ((g_fam g_bits (fun d p => (mask d).testBit (nu (p.getLastD 0))) W k (d0 + 1) (f_bits (pf ++ [p]))).map ((pf ++ [p]) ++ ·))).2 with
              | none =>
                rw [hr] at hK1
                exact ihj (i + 1) _ M7 (by omega) y8 a7 (r1 hr) hK1
              | some f =>
                rw [hr] at hK1
                have e5 := r2 f hr
                refine vc2_88_p37 (by omega) ⟨hv3, fun _ => hK1 M7 y8 a7 (fun f' hf' => b7 f' (by rw [hr] at hf'; rw [hr]; exact hf')), fun _ => ⟨fun _ => hK1 M7 y8 a7 (fun f' hf' => b7 f' (by rw [hr] at hf'; rw [hr]; exact hf')), fun g => absurd ?_ g⟩⟩
                rw [y8.2.1 4 (by decide), h4, a7, e5]
                exact (q_le hst hst).mpr (Nat.le_refl _)
      exact loop (W d0).length 0 m M (by omega) ⟨fun _ _ _ => rfl, fun _ _ => rfl, fun _ _ => rfl⟩ h5 hm (by rw [List.drop_zero]; exact hK)
    · rw [hn, q_lt (by omega) (by omega)] at g; omega

def x_fr91 (M M' : q_M) (d0 : Nat) : Prop := (∀ k, k ≠ 91 → k ≠ 92 → M' k = M k) ∧ (∀ j, j ≠ 5 → M' 91 j = M 91 j) ∧ ∀ dr, dr < d0 → M' 92 dr = M 92 dr
theorem x_fr91.tr {A B D : q_M} {d0 d1 : Nat} (h : x_fr91 A B d0) (h2 : x_fr91 B D d1) (hd : d0 ≤ d1) : x_fr91 A D d0 := ⟨fun k a b => (h2.1 k a b).trans (h.1 k a b), fun j a => (h2.2.1 j a).trans (h.2.1 j a), fun dr hdr => (h2.2.2 dr (by omega)).trans (h.2.2 dr hdr)⟩
theorem c_pick91 {W : Nat → List (List Nat)} {mask : Nat → Nat} {nd stop : Nat} (hN : N ≤ 30) (hn3 : n ≤ 3) (hWl : ∀ dr, dr < n → (W dr).length ≤ 126) (hWp : ∀ dr, dr < n → ∀ p ∈ W dr, g_wyOk N n nu wc p) (hmk : ∀ dr, dr < n → mask dr < 8) (hnd : nd < 2 ^ 30) (hst : stop < 2 ^ 31) :
    ∀ (k d0 d m : Nat) (pf : List (List Nat)) (M : q_M) (K : q_M → Prop), d0 + k = n → k + 1 ≤ d → pf.length = d0 → (∀ dr q, pf[dr]? = some q → M 92 dr = nI (g_bits q)) → (∀ p ∈ pf, ∀ c ∈ p, c < N) → M 44 1 = nI n → (∀ dr, dr < n → w_at M 45 47 51 dr nu (W dr)) → (∀ dr, dr < n → M 93 dr = nI (mask dr)) → M 91 3 = nI nd → M 91 4 = nI stop → M 91 5 = nI m → m < stop →
    (∀ M', x_fr91 M M' d0 → M' 91 5 = nI (v_run nd stop m ((g_fam g_bits (fun d p => (mask d).testBit (nu (p.getLastD 0))) W k d0 (f_bits pf)).map (pf ++ ·))).1 → (∀ f, (v_run nd stop m ((g_fam g_bits (fun d p => (mask d).testBit (nu (p.getLastD 0))) W k d0 (f_bits pf)).map (pf ++ ·))).2 = some f → ∀ dr q, f[dr]? = some q → M' 92 dr = nI (g_bits q)) → K M') → q_Cv X d 2 [.ref 91, .int (nI d0), .int (nI (f_bits pf))] M K := by
  intro k
  induction k with
  | zero =>
    intro d0 d m pf M K hk hd hpl hpk hpc hn hwa hop h3 h4 h5 hm hK
    have hpb := f_bits_lt hpc hN
    have hand : f_bits pf &&& nd ≤ nd := Nat.and_le_right
    have e1 : (g_fam g_bits (fun d p => (mask d).testBit (nu (p.getLastD 0))) W 0 d0 (f_bits pf)).map (pf ++ ·) = [pf] := by simp [g_fam]
    rw [e1] at hK
    refine vc2_91 ⟨fun g => ?_, fun _ => ?_⟩
    · rw [hn, q_lt (by omega) (by omega)] at g; omega
    · rw [h3, n_and, q_eq (by omega) (by omega), h5, nI_1]
      refine ⟨fun g => ?_, fun g => ?_⟩
      · have er : v_run nd stop m [pf] = (m, none) := by rw [v_run, if_neg g]; rfl
        rw [er] at hK
        exact hK M ⟨fun _ _ _ => rfl, fun _ _ => rfl, fun _ _ => rfl⟩ h5 (fun f h => by cases h)
      · have er : (v_run nd stop m [pf]).1 = m + 1 ∧ ∀ f, (v_run nd stop m [pf]).2 = some f → f = pf := by
          rw [v_run, if_pos g]
          by_cases e : m + 1 = stop
          · rw [if_pos e]; exact ⟨rfl, fun f h => by cases h; rfl⟩
          · rw [if_neg e]; exact ⟨rfl, fun f h => by cases h⟩
        rw [er.1] at hK
        refine hK _ ⟨fun k a b => q_set_n a, fun j a => by rw [q_set_ap, if_neg (by omega)], fun dr hdr => by rw [q_set_n (by decide)]⟩ (by rw [q_set_ap, if_pos ⟨rfl, rfl⟩]) (fun f hf dr q hq => ?_)
        rw [er.2 f hf] at hq
        rw [q_set_n (by decide)]
        exact hpk dr q hq
  | succ k ih =>
    intro d0 d m pf M K hk hd hpl hpk hpc hn hwa hop h3 h4 h5 hm hK
    have hd0 : d0 < n := by omega
    have hpb := f_bits_lt hpc hN
    have hWd := hWl d0 hd0
    have hmk0 := hmk d0 hd0
    refine vc2_91 ⟨fun _ => ?_, fun g => ?_⟩
    · have loop : ∀ (j i m1 : Nat) (M1 : q_M), i + j = (W d0).length → x_fr91 M M1 d0 → M1 91 5 = nI m1 → m1 < stop →
          (∀ M', x_fr91 M M' d0 → M' 91 5 = nI (v_run nd stop m1 ((((W d0).drop i).flatMap (fun p => if (mask d0).testBit (nu (p.getLastD 0)) && (g_bits p &&& f_bits pf == 0) then (g_fam g_bits (fun d p => (mask d).testBit (nu (p.getLastD 0))) W k (d0 + 1) (f_bits pf ||| g_bits p)).map (p :: ·) else [])).map (pf ++ ·))).1 → (∀ f, (v_run nd stop m1 ((((W d0).drop i).flatMap (fun p => if (mask d0).testBit (nu (p.getLastD 0)) && (g_bits p &&& f_bits pf == 0) then (g_fam g_bits (fun d p => (mask d).testBit (nu (p.getLastD 0))) W k (d0 + 1) (f_bits pf ||| g_bits p)).map (p :: ·) else [])).map (pf ++ ·))).2 = some f → ∀ dr q, f[dr]? = some q → M' 92 dr = nI (g_bits q)) → K M') →
          q_Ex X d 2 37 [some (.ref 91), some (.int (nI d0)), some (.int (nI (f_bits pf))), some (.int (nI i)), none] [] M1 (q_rn K) := by
        intro j
        induction j with
        | zero =>
          intro i m1 M1 hi hy h5a hm1 hK1
          refine vc2_91_p37 (by omega) ⟨q_vi (by omega) (by decide), fun _ => ?_, fun g => absurd ?_ g⟩
          · rw [List.drop_of_length_le (by omega)] at hK1
            exact hK1 M1 hy h5a (fun f h => by cases h)
          · rw [q_cn (by omega), hy.1 45 (by decide) (by decide), (hwa d0 hd0).1, q_le (by omega) (by omega)]; omega
        | succ j ihj =>
          intro i m1 M1 hi hy h5a hm1 hK1
          have hil : i < (W d0).length := by omega
          obtain ⟨p, hp⟩ : ∃ p, (W d0)[i]? = some p := ⟨(W d0)[i], List.getElem?_eq_getElem hil⟩
          have hpm : p ∈ W d0 := List.mem_of_getElem? hp
          have hdrop : (W d0).drop i = p :: (W d0).drop (i + 1) := by
            rw [List.drop_eq_getElem_cons hil]
            rw [List.getElem?_eq_getElem hil] at hp
            cases hp; rfl
          obtain ⟨w1, w2, w3, w4⟩ := hWp d0 hd0 p hpm
          have hgb : g_bits p < 2 ^ 30 := g_bits_31 w1 hN
          obtain ⟨v1, v2⟩ := (hwa d0 hd0).2 i p hp
          rw [hdrop, List.flatMap_cons, List.map_append] at hK1
          have hv3 : vp_in (nI d0) 3 := q_vi (by omega) (by decide)
          have hvi : vp_in (nI i) 126 := q_vi (by omega) (by decide)
          have hand : g_bits p &&& f_bits pf ≤ f_bits pf := Nat.and_le_right
          refine vc2_91_p37 (by omega) ?_
          rw [q_cn (show d0 < 2 ^ 31 by omega), q_cn (show i < 2 ^ 31 by omega), hy.1 45 (by decide) (by decide), (hwa d0 hd0).1, hy.2.1 4 (by decide), h4, h5a, hy.1 (47 + d0) (by omega) (by omega), v1, hy.1 (51 + d0) (by omega) (by omega), v2, hy.1 93 (by decide) (by decide), hop d0 hd0, n_and, n_or, nI_1, nI_1, n_bit0 (by omega) (by omega)]
          have skip : ((mask d0).testBit (nu (p.getLastD 0)) && (g_bits p &&& f_bits pf == 0)) = false → q_Ex X d 2 37 [some (.ref 91), some (.int (nI d0)), some (.int (nI (f_bits pf))), some (.int (nI (i + 1))), none] [] M1 (q_rn K) := by
            intro q
            rw [q] at hK1
            exact ihj (i + 1) m1 M1 (by omega) hy h5a hm1 (by simpa using hK1)
          refine ⟨hv3, fun g => absurd ((q_le (by omega) (by omega)).mp g) (by omega), fun _ => ⟨fun g => absurd ((q_le hst (by omega)).mp g) (by omega), fun _ => ⟨hv3, hvi, fun g => skip ?_, fun g => ⟨hv3, hv3, hvi, fun g2 => skip (by rw [g2]; rfl), fun g2 => ⟨hv3, ?_⟩⟩⟩⟩⟩
          · have : ¬ g_bits p &&& f_bits pf = 0 := fun q => g (by rw [q]; rfl)
            rw [show (g_bits p &&& f_bits pf == 0) = false by simp [this], Bool.and_false]
          · have q1 : g_bits p &&& f_bits pf = 0 := (q_eq (b := 0) (by omega) (by omega)).mp g
            have q2 : (mask d0).testBit (nu (p.getLastD 0)) = true := by
              cases hb : (mask d0).testBit (nu (p.getLastD 0)) with
              | true => rfl
              | false => exact absurd hb g2
            rw [q2, q1] at hK1
            simp only [BEq.rfl, Bool.and_self, if_true] at hK1
            have e3 : ((g_fam g_bits (fun d p => (mask d).testBit (nu (p.getLastD 0))) W k (d0 + 1) (f_bits pf ||| g_bits p)).map (p :: ·)).map (pf ++ ·) = (g_fam g_bits (fun d p => (mask d).testBit (nu (p.getLastD 0))) W k (d0 + 1) (f_bits (pf ++ [p]))).map ((pf ++ [p]) ++ ·) := by
              rw [List.map_map, f_bits_snoc]
              apply List.map_congr_left
              intro g _
              simp
            rw [e3, v_run_app] at hK1
            rw [← f_bits_snoc]
            refine ih (d0 + 1) (d - 1) m1 (pf ++ [p]) _ _ (by omega) (by omega) (by simp [hpl]) (fun dr q hq => ?_) (fun x hx => ?_) (by rw [q_set_n (by decide), hy.1 44 (by decide) (by decide)]; exact hn) (fun dr hdr => ?_) (fun dr hdr => by rw [q_set_n (by decide), hy.1 93 (by decide) (by decide)]; exact hop dr hdr) (by rw [q_set_n (by decide), hy.2.1 3 (by decide)]; exact h3) (by rw [q_set_n (by decide), hy.2.1 4 (by decide)]; exact h4) (by rw [q_set_n (by decide)]; exact h5a) hm1 (fun M7 y7 a7 b7 => ?_)
            · by_cases e : dr = d0
              · subst e
                rw [List.getElem?_append_right (by omega)] at hq
                simp [hpl] at hq
                subst hq
                simp [q_set_ap]
              · have hdr : dr < d0 := by
                  have := (List.getElem?_eq_some_iff.mp hq).1
                  simp [hpl] at this; omega
                rw [List.getElem?_append_left (by omega)] at hq
                rw [q_set_ap, if_neg (by omega), hy.2.2 dr hdr]
                exact hpk dr q hq
            · rcases List.mem_append.mp hx with h | h
              · exact hpc x h
              · simp at h; subst h; exact w1
            · have h0 := hwa dr hdr
              unfold w_at at h0 ⊢
              rw [q_set_n (by decide), q_set_n (show 47 + dr ≠ 92 by omega), q_set_n (show 51 + dr ≠ 92 by omega), hy.1 45 (by decide) (by decide), hy.1 (47 + dr) (by omega) (by omega), hy.1 (51 + dr) (by omega) (by omega)]
              exact h0
            · have y1 : x_fr91 M (q_set M1 92 d0 (nI (g_bits p))) d0 := ⟨fun q a b => by rw [q_set_n b]; exact hy.1 q a b, fun j a => by rw [q_set_n (by decide)]; exact hy.2.1 j a, fun dr hdr => by rw [q_set_ap, if_neg (by omega)]; exact hy.2.2 dr hdr⟩
              have y8 := y1.tr y7 (by omega)
              obtain ⟨r1, r2, r3⟩ := v_run_lt nd stop ((g_fam g_bits (fun d p => (mask d).testBit (nu (p.getLastD 0))) W k (d0 + 1) (f_bits (pf ++ [p]))).map ((pf ++ [p]) ++ ·)) m1 hm1
              cases hr : (v_run nd stop m1 ((g_fam g_bits (fun d p => (mask d).testBit (nu (p.getLastD 0))) W k (d0 + 1) (f_bits (pf ++ [p]))).map ((pf ++ [p]) ++ ·))).2 with
              | none =>
                rw [hr] at hK1
                exact ihj (i + 1) _ M7 (by omega) y8 a7 (r1 hr) hK1
              | some f =>
                rw [hr] at hK1
                have e5 := r2 f hr
                refine vc2_91_p37 (by omega) ⟨hv3, fun _ => hK1 M7 y8 a7 (fun f' hf' => b7 f' (by rw [hr] at hf'; rw [hr]; exact hf')), fun _ => ⟨fun _ => hK1 M7 y8 a7 (fun f' hf' => b7 f' (by rw [hr] at hf'; rw [hr]; exact hf')), fun g => absurd ?_ g⟩⟩
                rw [y8.2.1 4 (by decide), h4, a7, e5]
                exact (q_le hst hst).mpr (Nat.le_refl _)
      exact loop (W d0).length 0 m M (by omega) ⟨fun _ _ _ => rfl, fun _ _ => rfl, fun _ _ => rfl⟩ h5 hm (by rw [List.drop_zero]; exact hK)
    · rw [hn, q_lt (by omega) (by omega)] at g; omega

def x_fr94 (M M' : q_M) (d0 : Nat) : Prop := (∀ k, k ≠ 94 → k ≠ 95 → M' k = M k) ∧ (∀ j, j ≠ 5 → M' 94 j = M 94 j) ∧ ∀ dr, dr < d0 → M' 95 dr = M 95 dr
theorem x_fr94.tr {A B D : q_M} {d0 d1 : Nat} (h : x_fr94 A B d0) (h2 : x_fr94 B D d1) (hd : d0 ≤ d1) : x_fr94 A D d0 := ⟨fun k a b => (h2.1 k a b).trans (h.1 k a b), fun j a => (h2.2.1 j a).trans (h.2.1 j a), fun dr hdr => (h2.2.2 dr (by omega)).trans (h.2.2 dr hdr)⟩
theorem c_pick94 {W : Nat → List (List Nat)} {mask : Nat → Nat} {nd stop : Nat} (hN : N ≤ 30) (hn3 : n ≤ 3) (hWl : ∀ dr, dr < n → (W dr).length ≤ 126) (hWp : ∀ dr, dr < n → ∀ p ∈ W dr, g_wyOk N n nu wc p) (hmk : ∀ dr, dr < n → mask dr < 8) (hnd : nd < 2 ^ 30) (hst : stop < 2 ^ 31) :
    ∀ (k d0 d m : Nat) (pf : List (List Nat)) (M : q_M) (K : q_M → Prop), d0 + k = n → k + 1 ≤ d → pf.length = d0 → (∀ dr q, pf[dr]? = some q → M 95 dr = nI (g_bits q)) → (∀ p ∈ pf, ∀ c ∈ p, c < N) → M 54 1 = nI n → (∀ dr, dr < n → w_at M 55 57 61 dr nu (W dr)) → (∀ dr, dr < n → M 96 dr = nI (mask dr)) → M 94 3 = nI nd → M 94 4 = nI stop → M 94 5 = nI m → m < stop →
    (∀ M', x_fr94 M M' d0 → M' 94 5 = nI (v_run nd stop m ((g_fam g_bits (fun d p => (mask d).testBit (nu (p.getLastD 0))) W k d0 (f_bits pf)).map (pf ++ ·))).1 → (∀ f, (v_run nd stop m ((g_fam g_bits (fun d p => (mask d).testBit (nu (p.getLastD 0))) W k d0 (f_bits pf)).map (pf ++ ·))).2 = some f → ∀ dr q, f[dr]? = some q → M' 95 dr = nI (g_bits q)) → K M') → q_Cv X d 2 [.ref 94, .int (nI d0), .int (nI (f_bits pf))] M K := by
  intro k
  induction k with
  | zero =>
    intro d0 d m pf M K hk hd hpl hpk hpc hn hwa hop h3 h4 h5 hm hK
    have hpb := f_bits_lt hpc hN
    have hand : f_bits pf &&& nd ≤ nd := Nat.and_le_right
    have e1 : (g_fam g_bits (fun d p => (mask d).testBit (nu (p.getLastD 0))) W 0 d0 (f_bits pf)).map (pf ++ ·) = [pf] := by simp [g_fam]
    rw [e1] at hK
    refine vc2_94 ⟨fun g => ?_, fun _ => ?_⟩
    · rw [hn, q_lt (by omega) (by omega)] at g; omega
    · rw [h3, n_and, q_eq (by omega) (by omega), h5, nI_1]
      refine ⟨fun g => ?_, fun g => ?_⟩
      · have er : v_run nd stop m [pf] = (m, none) := by rw [v_run, if_neg g]; rfl
        rw [er] at hK
        exact hK M ⟨fun _ _ _ => rfl, fun _ _ => rfl, fun _ _ => rfl⟩ h5 (fun f h => by cases h)
      · have er : (v_run nd stop m [pf]).1 = m + 1 ∧ ∀ f, (v_run nd stop m [pf]).2 = some f → f = pf := by
          rw [v_run, if_pos g]
          by_cases e : m + 1 = stop
          · rw [if_pos e]; exact ⟨rfl, fun f h => by cases h; rfl⟩
          · rw [if_neg e]; exact ⟨rfl, fun f h => by cases h⟩
        rw [er.1] at hK
        refine hK _ ⟨fun k a b => q_set_n a, fun j a => by rw [q_set_ap, if_neg (by omega)], fun dr hdr => by rw [q_set_n (by decide)]⟩ (by rw [q_set_ap, if_pos ⟨rfl, rfl⟩]) (fun f hf dr q hq => ?_)
        rw [er.2 f hf] at hq
        rw [q_set_n (by decide)]
        exact hpk dr q hq
  | succ k ih =>
    intro d0 d m pf M K hk hd hpl hpk hpc hn hwa hop h3 h4 h5 hm hK
    have hd0 : d0 < n := by omega
    have hpb := f_bits_lt hpc hN
    have hWd := hWl d0 hd0
    have hmk0 := hmk d0 hd0
    refine vc2_94 ⟨fun _ => ?_, fun g => ?_⟩
    · have loop : ∀ (j i m1 : Nat) (M1 : q_M), i + j = (W d0).length → x_fr94 M M1 d0 → M1 94 5 = nI m1 → m1 < stop →
          (∀ M', x_fr94 M M' d0 → M' 94 5 = nI (v_run nd stop m1 ((((W d0).drop i).flatMap (fun p => if (mask d0).testBit (nu (p.getLastD 0)) && (g_bits p &&& f_bits pf == 0) then (g_fam g_bits (fun d p => (mask d).testBit (nu (p.getLastD 0))) W k (d0 + 1) (f_bits pf ||| g_bits p)).map (p :: ·) else [])).map (pf ++ ·))).1 → (∀ f, (v_run nd stop m1 ((((W d0).drop i).flatMap (fun p => if (mask d0).testBit (nu (p.getLastD 0)) && (g_bits p &&& f_bits pf == 0) then (g_fam g_bits (fun d p => (mask d).testBit (nu (p.getLastD 0))) W k (d0 + 1) (f_bits pf ||| g_bits p)).map (p :: ·) else [])).map (pf ++ ·))).2 = some f → ∀ dr q, f[dr]? = some q → M' 95 dr = nI (g_bits q)) → K M') →
          q_Ex X d 2 37 [some (.ref 94), some (.int (nI d0)), some (.int (nI (f_bits pf))), some (.int (nI i)), none] [] M1 (q_rn K) := by
        intro j
        induction j with
        | zero =>
          intro i m1 M1 hi hy h5a hm1 hK1
          refine vc2_94_p37 (by omega) ⟨q_vi (by omega) (by decide), fun _ => ?_, fun g => absurd ?_ g⟩
          · rw [List.drop_of_length_le (by omega)] at hK1
            exact hK1 M1 hy h5a (fun f h => by cases h)
          · rw [q_cn (by omega), hy.1 55 (by decide) (by decide), (hwa d0 hd0).1, q_le (by omega) (by omega)]; omega
        | succ j ihj =>
          intro i m1 M1 hi hy h5a hm1 hK1
          have hil : i < (W d0).length := by omega
          obtain ⟨p, hp⟩ : ∃ p, (W d0)[i]? = some p := ⟨(W d0)[i], List.getElem?_eq_getElem hil⟩
          have hpm : p ∈ W d0 := List.mem_of_getElem? hp
          have hdrop : (W d0).drop i = p :: (W d0).drop (i + 1) := by
            rw [List.drop_eq_getElem_cons hil]
            rw [List.getElem?_eq_getElem hil] at hp
            cases hp; rfl
          obtain ⟨w1, w2, w3, w4⟩ := hWp d0 hd0 p hpm
          have hgb : g_bits p < 2 ^ 30 := g_bits_31 w1 hN
          obtain ⟨v1, v2⟩ := (hwa d0 hd0).2 i p hp
          rw [hdrop, List.flatMap_cons, List.map_append] at hK1
          have hv3 : vp_in (nI d0) 3 := q_vi (by omega) (by decide)
          have hvi : vp_in (nI i) 126 := q_vi (by omega) (by decide)
          have hand : g_bits p &&& f_bits pf ≤ f_bits pf := Nat.and_le_right
          refine vc2_94_p37 (by omega) ?_
          rw [q_cn (show d0 < 2 ^ 31 by omega), q_cn (show i < 2 ^ 31 by omega), hy.1 55 (by decide) (by decide), (hwa d0 hd0).1, hy.2.1 4 (by decide), h4, h5a, hy.1 (57 + d0) (by omega) (by omega), v1, hy.1 (61 + d0) (by omega) (by omega), v2, hy.1 96 (by decide) (by decide), hop d0 hd0, n_and, n_or, nI_1, nI_1, n_bit0 (by omega) (by omega)]
          have skip : ((mask d0).testBit (nu (p.getLastD 0)) && (g_bits p &&& f_bits pf == 0)) = false → q_Ex X d 2 37 [some (.ref 94), some (.int (nI d0)), some (.int (nI (f_bits pf))), some (.int (nI (i + 1))), none] [] M1 (q_rn K) := by
            intro q
            rw [q] at hK1
            exact ihj (i + 1) m1 M1 (by omega) hy h5a hm1 (by simpa using hK1)
          refine ⟨hv3, fun g => absurd ((q_le (by omega) (by omega)).mp g) (by omega), fun _ => ⟨fun g => absurd ((q_le hst (by omega)).mp g) (by omega), fun _ => ⟨hv3, hvi, fun g => skip ?_, fun g => ⟨hv3, hv3, hvi, fun g2 => skip (by rw [g2]; rfl), fun g2 => ⟨hv3, ?_⟩⟩⟩⟩⟩
          · have : ¬ g_bits p &&& f_bits pf = 0 := fun q => g (by rw [q]; rfl)
            rw [show (g_bits p &&& f_bits pf == 0) = false by simp [this], Bool.and_false]
          · have q1 : g_bits p &&& f_bits pf = 0 := (q_eq (b := 0) (by omega) (by omega)).mp g
            have q2 : (mask d0).testBit (nu (p.getLastD 0)) = true := by
              cases hb : (mask d0).testBit (nu (p.getLastD 0)) with
              | true => rfl
              | false => exact absurd hb g2
            rw [q2, q1] at hK1
            simp only [BEq.rfl, Bool.and_self, if_true] at hK1
            have e3 : ((g_fam g_bits (fun d p => (mask d).testBit (nu (p.getLastD 0))) W k (d0 + 1) (f_bits pf ||| g_bits p)).map (p :: ·)).map (pf ++ ·) = (g_fam g_bits (fun d p => (mask d).testBit (nu (p.getLastD 0))) W k (d0 + 1) (f_bits (pf ++ [p]))).map ((pf ++ [p]) ++ ·) := by
              rw [List.map_map, f_bits_snoc]
              apply List.map_congr_left
              intro g _
              simp
            rw [e3, v_run_app] at hK1
            rw [← f_bits_snoc]
            refine ih (d0 + 1) (d - 1) m1 (pf ++ [p]) _ _ (by omega) (by omega) (by simp [hpl]) (fun dr q hq => ?_) (fun x hx => ?_) (by rw [q_set_n (by decide), hy.1 54 (by decide) (by decide)]; exact hn) (fun dr hdr => ?_) (fun dr hdr => by rw [q_set_n (by decide), hy.1 96 (by decide) (by decide)]; exact hop dr hdr) (by rw [q_set_n (by decide), hy.2.1 3 (by decide)]; exact h3) (by rw [q_set_n (by decide), hy.2.1 4 (by decide)]; exact h4) (by rw [q_set_n (by decide)]; exact h5a) hm1 (fun M7 y7 a7 b7 => ?_)
            · by_cases e : dr = d0
              · subst e
                rw [List.getElem?_append_right (by omega)] at hq
                simp [hpl] at hq
                subst hq
                simp [q_set_ap]
              · have hdr : dr < d0 := by
                  have := (List.getElem?_eq_some_iff.mp hq).1
                  simp [hpl] at this; omega
                rw [List.getElem?_append_left (by omega)] at hq
                rw [q_set_ap, if_neg (by omega), hy.2.2 dr hdr]
                exact hpk dr q hq
            · rcases List.mem_append.mp hx with h | h
              · exact hpc x h
              · simp at h; subst h; exact w1
            · have h0 := hwa dr hdr
              unfold w_at at h0 ⊢
              rw [q_set_n (by decide), q_set_n (show 57 + dr ≠ 95 by omega), q_set_n (show 61 + dr ≠ 95 by omega), hy.1 55 (by decide) (by decide), hy.1 (57 + dr) (by omega) (by omega), hy.1 (61 + dr) (by omega) (by omega)]
              exact h0
            · have y1 : x_fr94 M (q_set M1 95 d0 (nI (g_bits p))) d0 := ⟨fun q a b => by rw [q_set_n b]; exact hy.1 q a b, fun j a => by rw [q_set_n (by decide)]; exact hy.2.1 j a, fun dr hdr => by rw [q_set_ap, if_neg (by omega)]; exact hy.2.2 dr hdr⟩
              have y8 := y1.tr y7 (by omega)
              obtain ⟨r1, r2, r3⟩ := v_run_lt nd stop ((g_fam g_bits (fun d p => (mask d).testBit (nu (p.getLastD 0))) W k (d0 + 1) (f_bits (pf ++ [p]))).map ((pf ++ [p]) ++ ·)) m1 hm1
              cases hr : (v_run nd stop m1 ((g_fam g_bits (fun d p => (mask d).testBit (nu (p.getLastD 0))) W k (d0 + 1) (f_bits (pf ++ [p]))).map ((pf ++ [p]) ++ ·))).2 with
              | none =>
                rw [hr] at hK1
                exact ihj (i + 1) _ M7 (by omega) y8 a7 (r1 hr) hK1
              | some f =>
                rw [hr] at hK1
                have e5 := r2 f hr
                refine vc2_94_p37 (by omega) ⟨hv3, fun _ => hK1 M7 y8 a7 (fun f' hf' => b7 f' (by rw [hr] at hf'; rw [hr]; exact hf')), fun _ => ⟨fun _ => hK1 M7 y8 a7 (fun f' hf' => b7 f' (by rw [hr] at hf'; rw [hr]; exact hf')), fun g => absurd ?_ g⟩⟩
                rw [y8.2.1 4 (by decide), h4, a7, e5]
                exact (q_le hst hst).mpr (Nat.le_refl _)
      exact loop (W d0).length 0 m M (by omega) ⟨fun _ _ _ => rfl, fun _ _ => rfl, fun _ _ => rfl⟩ h5 hm (by rw [List.drop_zero]; exact hK)
    · rw [hn, q_lt (by omega) (by omega)] at g; omega
end Finder
