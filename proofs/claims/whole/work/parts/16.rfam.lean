/-! the reference's families -/
theorem g_fam_len {α : Type} (b : α → Nat) (ok : Nat → α → Bool) (Ws : Nat → List α) : ∀ (k d s : Nat) (f : List α), f ∈ g_fam b ok Ws k d s → f.length = k := by
  intro k
  induction k with
  | zero => intro d s f h; simp [g_fam] at h; simp [h]
  | succ k ih =>
    intro d s f h
    unfold g_fam at h
    obtain ⟨p, -, h2⟩ := List.mem_flatMap.mp h
    split at h2
    · obtain ⟨g, hg, rfl⟩ := List.mem_map.mp h2
      simp [ih _ _ _ hg]
    · simp at h2
theorem g_fm_le {α β : Type} (l : List α) (G : α → List β) (B : Nat) (h : ∀ p ∈ l, (G p).length ≤ B) : (l.flatMap G).length ≤ l.length * B := by
  induction l with
  | nil => simp
  | cons a r ih =>
    rw [List.flatMap_cons, List.length_append, List.length_cons, Nat.add_mul, Nat.one_mul]
    have := ih (fun p hp => h p (List.mem_cons_of_mem _ hp))
    have := h a List.mem_cons_self
    omega
theorem g_fam_cnt {α : Type} (b : α → Nat) (ok : Nat → α → Bool) (Ws : Nat → List α) : ∀ (k d s : Nat), (∀ e, e < d + k → (Ws e).length ≤ 126) → (g_fam b ok Ws k d s).length ≤ 126 ^ k := by
  intro k
  induction k with
  | zero => intro d s _; simp [g_fam]
  | succ k ih =>
    intro d s h
    unfold g_fam
    have h1 : ∀ p ∈ Ws d, (if ok d p && (b p &&& s == 0) then (g_fam b ok Ws k (d + 1) (s ||| b p)).map (p :: ·) else []).length ≤ 126 ^ k := by
      intro p _
      split
      · rw [List.length_map]; exact ih (d + 1) _ (fun e he => h e (by omega))
      · simp
    refine Nat.le_trans (g_fm_le _ _ _ h1) ?_
    rw [Nat.pow_succ, Nat.mul_comm]
    exact Nat.mul_le_mul_left _ (h d (by omega))
/-- by what each door wants -/
def g_okW (wn : Nat → Option Nat) (nu : Nat → Nat) (d : Nat) (p : List Nat) : Bool := match wn d with
  | none => true
  | some w => nu (p.getLastD 0) == w
/-- ways lie on the board and end in a well -/
def g_wyOk (N n : Nat) (nu wc : Nat → Nat) (p : List Nat) : Prop := (∀ c ∈ p, c < N) ∧ p.getLastD 0 ∈ p ∧ nu (p.getLastD 0) < n ∧ p.getLastD 0 = wc (nu (p.getLastD 0))
def y_fr (M M' : q_M) (d0 : Nat) : Prop := (∀ k, k ≠ 97 → k ≠ 110 → k ≠ 111 → k ≠ 112 → k ≠ 113 → M' k = M k) ∧ (∀ j, j ≠ 20 → j ≠ 21 → j ≠ 22 → M' 97 j = M 97 j) ∧ ∀ dr, dr < d0 → M' 110 dr = M 110 dr
theorem y_fr.rf (M : q_M) (d0 : Nat) : y_fr M M d0 := ⟨fun _ _ _ _ _ _ => rfl, fun _ _ _ _ => rfl, fun _ _ => rfl⟩
theorem y_fr.tr {A B D : q_M} {d0 d1 : Nat} (h : y_fr A B d0) (h2 : y_fr B D d1) (hd : d0 ≤ d1) : y_fr A D d0 := ⟨fun k a b c e f => (h2.1 k a b c e f).trans (h.1 k a b c e f), fun j a b c => (h2.2.1 j a b c).trans (h.2.1 j a b c), fun dr hdr => (h2.2.2 dr (by omega)).trans (h.2.2 dr hdr)⟩
theorem f_bits_snoc (f : List (List Nat)) (p : List Nat) : f_bits (f ++ [p]) = f_bits f ||| g_bits p := by unfold f_bits; rw [List.flatten_append, g_bits_app]; simp
section RFam
variable {X : Nat × (Nat → Int32)} {R C n : Nat} {kd co nu dc wc : Nat → Nat}
theorem r_familiesFrom (hw : r_wf R C n kd nu dc wc) {sb : Nat} {W : Nat → List (List Nat)} {wk : Option Nat} {wn : Nat → Option Nat} (hco : ∀ c, c < R * C → co c ≤ 9) (hWl : ∀ dr, dr < n → (W dr).length ≤ 126) (hWp : ∀ dr, dr < n → ∀ p ∈ W dr, g_wyOk (R * C) n nu wc p) (hsb : sb < 2 ^ 30) (hwk : ∀ k, wk = some k → k < 2 ^ 31) (hwn : ∀ dr w, wn dr = some w → w < 3) :
    ∀ (k d0 d wb : Nat) (pf : List (List Nat)) (M : q_M) (F : List (List (List Nat))) (K : q_M → Prop), d0 + k = n → k + 4 ≤ d → pf.length = d0 → (∀ dr, dr < d0 → ∃ i p, M 110 dr = nI i ∧ (W dr)[i]? = some p ∧ pf[dr]? = some p) → (∀ p ∈ pf, ∀ c ∈ p, c < R * C) → wb < 8 → (∀ w, wb.testBit w = true → (f_bits pf).testBit (wc w) = true) → r_b M R C n kd co nu → (∀ dr, dr < n → v_at M dr nu (W dr)) → (∀ dr, dr < n → M 109 dr = g_oj (wn dr)) → z_at M n (R * C) co W sb wk F → (∀ g ∈ F, g.length = n) → (F ++ (g_fam g_bits (g_okW wn nu) W k d0 (f_bits pf)).map (pf ++ ·)).length < 2 ^ 30 →
    (∀ M', y_fr M M' d0 → z_at M' n (R * C) co W sb wk (F ++ (g_fam g_bits (g_okW wn nu) W k d0 (f_bits pf)).map (pf ++ ·)) → K M') → q_Cv X d 119 [.ref 97, .int (nI d0), .int (nI (f_bits pf)), .int (nI wb)] M K := by
  have hRC := r_RC hw
  have hn3 := hw.2.2.1
  intro k
  induction k with
  | zero =>
    intro d0 d wb pf M F K hk hd hpl hpk hpc hwb hwbt hb hv hwt hz hF hlen hK
    refine vc119 (by omega) ⟨fun g => absurd (by rw [hb.2.2.1, show d0 = n by omega]) g, fun _ => ?_⟩
    have e1 : (g_fam g_bits (g_okW wn nu) W 0 d0 (f_bits pf)).map (pf ++ ·) = [pf] := by simp [g_fam]
    rw [e1] at hlen hK
    have hsk : ∃ ix : Nat → Nat, ∀ dr, dr < n → ∃ p, M 110 dr = nI (ix dr) ∧ (W dr)[ix dr]? = some p ∧ pf[dr]? = some p := by
      refine ⟨fun dr => if h : dr < d0 then (hpk dr h).choose else 0, fun dr hdr => ?_⟩
      have h : dr < d0 := by omega
      obtain ⟨p, h1⟩ := (hpk dr h).choose_spec
      exact ⟨p, by simpa [h] using h1⟩
    obtain ⟨ix, hix⟩ := hsk
    refine r_gathers hw (by omega) hb hco hz hv hWl hix (by omega) (by simp at hlen; omega) (fun g hg => by rw [hF g hg]; exact hn3) hpc hsb hwk (fun M' f1 f2 f3 => ?_)
    exact hK M' ⟨fun k a b c e f => f1 k a c e f, f2, fun dr hdr => by rw [f1 110 (by decide) (by decide) (by decide) (by decide)]⟩ f3
  | succ k ih =>
    intro d0 d wb pf M F K hk hd hpl hpk hpc hwb hwbt hb hv hwt hz hF hlen hK
    have hd0 : d0 < n := by omega
    have hpb : f_bits pf < 2 ^ 30 := f_bits_lt hpc hRC
    refine vc119 (by omega) ⟨fun _ => ?_, fun g => ?_⟩
    · have hWd := hWl d0 hd0
      have loop : ∀ (j i : Nat) (M1 : q_M) (F1 : List (List (List Nat))), i + j = (W d0).length → y_fr M M1 d0 → z_at M1 n (R * C) co W sb wk F1 → (∀ g ∈ F1, g.length = n) →
          (F1 ++ (((W d0).drop i).flatMap (fun p => if g_okW wn nu d0 p && (g_bits p &&& f_bits pf == 0) then (g_fam g_bits (g_okW wn nu) W k (d0 + 1) (f_bits pf ||| g_bits p)).map (p :: ·) else [])).map (pf ++ ·)).length < 2 ^ 30 →
          (∀ M', y_fr M M' d0 → z_at M' n (R * C) co W sb wk (F1 ++ (((W d0).drop i).flatMap (fun p => if g_okW wn nu d0 p && (g_bits p &&& f_bits pf == 0) then (g_fam g_bits (g_okW wn nu) W k (d0 + 1) (f_bits pf ||| g_bits p)).map (p :: ·) else [])).map (pf ++ ·)) → K M') →
          q_Ex X d 119 19 [some (.ref 97), some (.int (nI d0)), some (.int (nI (f_bits pf))), some (.int (nI wb)), some (.int (nI i)), none, none] [] M1 (q_rn K) := by
        intro j
        induction j with
        | zero =>
          intro i M1 F1 hi hy hz1 hF1 hlen1 hK1
          refine vc119_p19 (by omega) ⟨q_vi (by omega) (by decide), fun _ => ?_, fun g => absurd ?_ g⟩
          · rw [List.drop_of_length_le (by omega)] at hK1
            exact hK1 M1 hy (by simpa using hz1)
          · rw [q_cn (by omega), hy.1 108 (by decide) (by decide) (by decide) (by decide) (by decide), (hv d0 hd0).1, q_le (by omega) (by omega)]; omega
        | succ j ihj =>
          intro i M1 F1 hi hy hz1 hF1 hlen1 hK1
          have hil : i < (W d0).length := by omega
          obtain ⟨p, hp⟩ : ∃ p, (W d0)[i]? = some p := ⟨(W d0)[i], List.getElem?_eq_getElem hil⟩
          have hpm : p ∈ W d0 := List.mem_of_getElem? hp
          have hdrop : (W d0).drop i = p :: (W d0).drop (i + 1) := by
            rw [List.drop_eq_getElem_cons hil]
            rw [List.getElem?_eq_getElem hil] at hp
            cases hp; rfl
          obtain ⟨w1, w2, w3, w4⟩ := hWp d0 hd0 p hpm
          have hgb : g_bits p < 2 ^ 30 := g_bits_31 w1 hRC
          have hk1 : ∀ q, q ≠ 97 → q ≠ 110 → q ≠ 111 → q ≠ 112 → q ≠ 113 → M1 q = M q := hy.1
          obtain ⟨v1, v2, v3, v4⟩ := (hv d0 hd0).2 i p hp
          rw [hdrop, List.flatMap_cons, List.map_append] at hlen1 hK1
          have eix : (400 : Int32) * nI d0 + nI i = nI (400 * d0 + i) := by rw [show (400 : Int32) * nI d0 = nI (400 * d0) from pk_mul 400 d0, nI_add]
          have hvx : vp_in (nI (400 * d0 + i)) 1200 := q_vi (by omega) (by decide)
          have hv3 : vp_in (nI d0) 3 := q_vi (by omega) (by decide)
          refine vc119_p19 (by omega) ?_
          rw [eix, q_cn (show d0 < 2 ^ 31 by omega), q_cn (show 400 * d0 + i < 2 ^ 31 by omega), hk1 108 (by decide) (by decide) (by decide) (by decide) (by decide), hk1 109 (by decide) (by decide) (by decide) (by decide) (by decide), hk1 104 (by decide) (by decide) (by decide) (by decide) (by decide), hk1 107 (by decide) (by decide) (by decide) (by decide) (by decide), (hv d0 hd0).1, hwt d0 hd0, v1, v4, n_and, n_or, nI_1, nI_1, n_sh _ (by omega), n_or]
          have hand : g_bits p &&& f_bits pf ≤ f_bits pf := Nat.and_le_right
          -- skip this way
          have skip : (g_okW wn nu d0 p && (g_bits p &&& f_bits pf == 0)) = false → q_Ex X d 119 19 [some (.ref 97), some (.int (nI d0)), some (.int (nI (f_bits pf))), some (.int (nI wb)), some (.int (nI (i + 1))), none, none] [] M1 (q_rn K) := by
            intro q
            rw [q] at hlen1 hK1
            exact ihj (i + 1) M1 F1 (by omega) hy hz1 hF1 (by simpa using hlen1) (by simpa using hK1)
          -- take it
          have take : (g_okW wn nu d0 p && (g_bits p &&& f_bits pf == 0)) = true → q_Cv X (d - 1) 119 [.ref 97, .int (nI (d0 + 1)), .int (nI (f_bits pf ||| g_bits p)), .int (nI (wb ||| 2 ^ nu (p.getLastD 0)))] (q_set M1 110 d0 (nI i)) (fun M5 => q_Ex X d 119 19 [some (.ref 97), some (.int (nI d0)), some (.int (nI (f_bits pf))), some (.int (nI wb)), some (.int (nI (i + 1))), none, none] [] M5 (q_rn K)) := by
            intro q
            rw [q] at hlen1 hK1
            rw [if_pos rfl] at hlen1 hK1
            have e3 : ((g_fam g_bits (g_okW wn nu) W k (d0 + 1) (f_bits pf ||| g_bits p)).map (p :: ·)).map (pf ++ ·) = (g_fam g_bits (g_okW wn nu) W k (d0 + 1) (f_bits (pf ++ [p]))).map ((pf ++ [p]) ++ ·) := by
              rw [List.map_map, f_bits_snoc]
              apply List.map_congr_left
              intro g _
              simp
            rw [e3] at hlen1 hK1
            rw [← f_bits_snoc]
            refine ih (d0 + 1) (d - 1) (wb ||| 2 ^ nu (p.getLastD 0)) (pf ++ [p]) (q_set M1 110 d0 (nI i)) F1 _ (by omega) (by omega) (by simp [hpl]) (fun dr hdr => ?_) (fun x hx => ?_) ?_ (fun w hwt => ?_) (hb.eq (by rw [q_set_n (by decide)]; exact hk1 99 (by decide) (by decide) (by decide) (by decide) (by decide))) (fun dr hdr => ?_) (fun dr hdr => ?_) ?_ hF1 (by simp only [List.length_append] at hlen1 ⊢; omega) (fun M5 y5 z5 => ?_)
            · by_cases e : dr = d0
              · subst e
                exact ⟨i, p, by simp [q_set_ap], hp, by rw [List.getElem?_append_right (by omega)]; simp [hpl]⟩
              · obtain ⟨i', p', a1, a2, a3⟩ := hpk dr (by omega)
                exact ⟨i', p', by rw [q_set_ap, if_neg (by omega), hy.2.2 dr (by omega)]; exact a1, a2, by rw [List.getElem?_append_left (by omega)]; exact a3⟩
            · rcases List.mem_append.mp hx with h | h
              · exact hpc x h
              · simp at h; subst h; exact w1
            · exact Nat.or_lt_two_pow (n := 3) hwb (Nat.pow_lt_pow_right (by decide) (by omega))
            · rw [f_bits_snoc, Nat.testBit_or]
              rw [Nat.testBit_or, Bool.or_eq_true] at hwt
              rcases hwt with h | h
              · rw [hwbt w h]; rfl
              · rw [Nat.testBit_two_pow, decide_eq_true_eq] at h
                have : (g_bits p).testBit (wc w) = true := by rw [g_bits_tb, ← h, ← w4]; exact w2
                rw [this, Bool.or_true]
            · have h0 := hv dr hdr
              unfold v_at at h0 ⊢
              rw [q_set_n (by decide), q_set_n (by decide), q_set_n (by decide), q_set_n (by decide), q_set_n (by decide), hk1 104 (by decide) (by decide) (by decide) (by decide) (by decide), hk1 105 (by decide) (by decide) (by decide) (by decide) (by decide), hk1 106 (by decide) (by decide) (by decide) (by decide) (by decide), hk1 107 (by decide) (by decide) (by decide) (by decide) (by decide), hk1 108 (by decide) (by decide) (by decide) (by decide) (by decide)]
              exact h0
            · rw [q_set_n (by decide), hk1 109 (by decide) (by decide) (by decide) (by decide) (by decide)]; exact hwt dr hdr
            · unfold z_at at hz1 ⊢
              rw [q_set_n (by decide), q_set_n (by decide), q_set_n (by decide), q_set_n (by decide)]; exact hz1
            · have y1 : y_fr M (q_set M1 110 d0 (nI i)) d0 := ⟨fun q a b c e f => by rw [q_set_n b]; exact hy.1 q a b c e f, fun j a b c => by rw [q_set_n (by decide)]; exact hy.2.1 j a b c, fun dr hdr => by rw [q_set_ap, if_neg (by omega)]; exact hy.2.2 dr hdr⟩
              refine ihj (i + 1) M5 _ (by omega) (y1.tr y5 (by omega)) z5 (fun g hg => ?_) (by rw [List.append_assoc]; exact hlen1) (fun M' a b => ?_)
              · rcases List.mem_append.mp hg with h | h
                · exact hF1 g h
                · obtain ⟨g2, h2, rfl⟩ := List.mem_map.mp h
                  have := g_fam_len _ _ _ _ _ _ _ h2
                  simp [hpl]; omega
              · rw [List.append_assoc] at b
                exact hK1 M' a b
          refine ⟨hv3, fun g => absurd ((q_le (by omega) (by omega)).mp g) (by omega), fun _ => ⟨hv3, fun g => ?_, fun g => ?_⟩⟩
          · -- a well is wanted
            obtain ⟨w, hwn1⟩ : ∃ w, wn d0 = some w := by
              cases hq : wn d0 with
              | none => rw [hq] at g; exact absurd g (by decide)
              | some w => exact ⟨w, rfl⟩
            have hw3 := hwn d0 w hwn1
            have eok : g_okW wn nu d0 p = (nu (p.getLastD 0) == w) := by unfold g_okW; rw [hwn1]
            rw [hwn1, show g_oj (some w) = nI w from rfl, q_eq (by omega) (by omega)]
            refine ⟨hvx, hv3, fun g2 => skip (by rw [eok, beq_eq_false_iff_ne.mpr g2]; rfl), fun g2 => ⟨hvx, fun g3 => ⟨hv3, hvx, hvx, take ?_⟩, fun g3 => skip ?_⟩⟩
            · have : g_bits p &&& f_bits pf = 0 := (q_eq (b := 0) (by omega) (by omega)).mp g3
              rw [eok, g2, this]; simp
            · have : ¬ g_bits p &&& f_bits pf = 0 := fun q => g3 (by rw [q]; rfl)
              simp [this]
          · -- any
            have hwn1 : wn d0 = none := by
              cases hq : wn d0 with
              | none => rfl
              | some w => rw [hq] at g; exact absurd (q_0le (by have := hwn d0 w hq; omega)) g
            have eok : g_okW wn nu d0 p = true := by unfold g_okW; rw [hwn1]
            rw [n_bit0 (by omega) (by omega)]
            refine ⟨hvx, fun g2 => skip ?_, fun g2 => ⟨hvx, fun g3 => ⟨hv3, hvx, hvx, take ?_⟩, fun g3 => skip ?_⟩⟩
            · have g2' : wb.testBit (nu (p.getLastD 0)) = true := by simpa using g2
              have h5 := hwbt _ g2'
              rw [← w4] at h5
              have h6 : (g_bits p).testBit (p.getLastD 0) = true := (g_bits_tb _ _).mpr w2
              have : ¬ g_bits p &&& f_bits pf = 0 := fun q => by
                have h7 : (g_bits p &&& f_bits pf).testBit (p.getLastD 0) = true := by rw [Nat.testBit_and, h5, h6]; rfl
                rw [q] at h7; simp at h7
              simp [this]
            · have : g_bits p &&& f_bits pf = 0 := (q_eq (b := 0) (by omega) (by omega)).mp g3
              rw [eok]; simp [this]
            · have : ¬ g_bits p &&& f_bits pf = 0 := fun q => g3 (by rw [q]; rfl)
              simp [this]
      exact loop (W d0).length 0 M F (by omega) (y_fr.rf _ _) hz hF (by rw [List.drop_zero]; exact hlen) (fun M' a b => hK M' a (by rw [List.drop_zero] at b; exact b))
    · rw [hb.2.2.1, q_eq (by omega) (by omega)] at g; omega
end RFam
