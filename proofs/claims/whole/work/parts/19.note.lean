/-! the class's study: noting a family -/
def s_p (M : q_M) (N : Nat) (co : Nat → Nat) (p : Nat) (F : List (List (List Nat))) : Prop := M 66 p = nI F.length ∧ M 67 p = nI ((z_least co N F).getD 0) ∧ ∀ c, c < N → M (69 + p) c = nI (z_cnt F c) ∧ M (79 + p) c = nI (z_who F c)
def s_fr (M M' : q_M) (p : Nat) : Prop := (∀ k, k ≠ 66 → k ≠ 67 → k ≠ 69 + p → k ≠ 79 + p → M' k = M k) ∧ (∀ j, j ≠ p → M' 66 j = M 66 j) ∧ ∀ j, j ≠ p → M' 67 j = M 67 j
theorem q_if {α : Type} {c i : Nat} (A B : α) (h : c ≠ i) : (if c < i then A else B) = (if c < i + 1 then A else B) := by
  by_cases q : c < i
  · rw [if_pos q, if_pos (by omega)]
  · rw [if_neg q, if_neg (by omega)]
section Note
variable {X : Nat × (Nat → Int32)} {R C n : Nat} {kd co nu dc wc : Nat → Nat}
theorem c_isIn {d b c : Nat} {M : q_M} {K : Int32 → q_M → Prop} (hb : b < 2 ^ 31) (hc : c < 2 ^ 31) (h1 : c < 30 → b.testBit c = true → K 1 M) (h2 : (c < 30 → b.testBit c = false) → K 0 M) : q_Ci X d 90 [.int (nI b), .int (nI c)] M K := by
  refine vc90 ⟨fun g => absurd g (q_nlt0 hc), fun _ => ⟨fun g => h2 (fun q => absurd ((q_le (a := 30) (by omega) hc).mp g) (by omega)), fun g => ?_⟩⟩
  have hc30 : c < 30 := by
    rcases Nat.lt_or_ge c 30 with q | q
    · exact q
    · exact absurd ((q_le (a := 30) (by omega) hc).mpr q) g
  rw [n_bit0 hb (by omega)]
  exact ⟨fun q => h2 (fun _ => q), fun q => h1 hc30 (by simpa using q)⟩
theorem c_doorsPicked {d c n : Nat} {M : q_M} {K : Int32 → q_M → Prop} {f : List (List Nat)} (hd : 0 < d) (hn3 : n ≤ 3) (hn : M 44 1 = nI n) (hc : c < 30) (hfl : f.length = n) (hfb : ∀ p ∈ f, g_bits p < 2 ^ 30) (hp : ∀ dr p, f[dr]? = some p → M 65 dr = nI (g_bits p)) (h : K (nI (f_who 0 f c)) M) : q_Ci X d 34 [.ref 64, .int (nI c)] M K := by
  refine vc34 ?_
  have zsh : ∀ i, i < 3 → nI 0 <<< (nI i &&& 31) = nI 0 := by decide +kernel
  have loop : ∀ (j i : Nat), i + j = n → q_Ex X d 34 4 [some (.ref 64), some (.int (nI c)), some (.int (nI (f_who 0 (f.take i) c))), some (.int (nI i))] [] M (q_ri K) := by
    intro j
    induction j with
    | zero =>
      intro i hi
      refine vc34_p4 ⟨fun _ => ?_, fun g => absurd (by rw [hn, q_le (by omega) (by omega)]; omega) g⟩
      rw [List.take_of_length_le (by omega)]; exact h
    | succ j ih =>
      intro i hi
      have hil : i < f.length := by omega
      obtain ⟨p, hpi⟩ : ∃ p, f[i]? = some p := ⟨f[i], List.getElem?_eq_getElem hil⟩
      have hpb := hfb p (List.mem_of_getElem? hpi)
      have etake : f.take (i + 1) = f.take i ++ [p] := by rw [List.take_add_one, hpi]; rfl
      have etl : (f.take i).length = i := by rw [List.length_take]; omega
      have hwh : f_who 0 (f.take (i + 1)) c = f_who 0 (f.take i) c ||| (if (g_bits p).testBit c then 2 ^ i else 0) := by rw [etake, f_who_snoc, etl, Nat.zero_add]
      have esh : ((nI (g_bits p) >>> (nI c &&& 31)) &&& 1) <<< (nI i &&& 31) = nI (if (g_bits p).testBit c then 2 ^ i else 0) := by
        rw [n_bitN (by omega) (by omega)]
        by_cases hb : (g_bits p).testBit c = true
        · rw [if_pos hb, if_pos hb]
          exact n_sh i (by omega)
        · rw [if_neg hb, if_neg hb]
          exact zsh i (by omega)
      refine vc34_p4 ⟨fun g => ?_, fun _ => ⟨q_vi (by omega) (by decide), ?_⟩⟩
      · rw [hn, q_le (by omega) (by omega)] at g; omega
      · rw [q_cn (by omega), hp i p hpi, nI_1, esh, n_or, ← hwh]
        exact ih (i + 1) (by omega)
  exact loop n 0 (by omega)
theorem f_who_0 {c : Nat} (f : List (List Nat)) : ∀ d, (f_bits f).testBit c = false → f_who d f c = 0 := by
  induction f with
  | nil => intro d _; rfl
  | cons p r ih =>
    intro d h
    have e : f_bits (p :: r) = g_bits p ||| f_bits r := by unfold f_bits; rw [List.flatten_cons, g_bits_app]
    rw [e, Nat.testBit_or, Bool.or_eq_false_iff] at h
    unfold f_who
    rw [ih (d + 1) h.2, h.1]
    simp
theorem c_note (hw : b_wf R C n kd co nu dc wc) {d p : Nat} {M : q_M} {K : q_M → Prop} {F : List (List (List Nat))} {f : List (List Nat)} (hd : 2 ≤ d) (hb : b_now M R C n kd co nu dc wc) (hn : M 44 1 = nI n) (hp9 : p < 9) (hfl : f.length = n) (hcells : ∀ q ∈ f, ∀ c ∈ q, c < R * C) (hpk : ∀ dr q, f[dr]? = some q → M 65 dr = nI (g_bits q)) (hs : s_p M (R * C) co p F) (hF : F.length < 2 ^ 30) (hFl : ∀ g ∈ F, g.length ≤ 3)
    (h : ∀ M', s_fr M M' p → s_p M' (R * C) co p (F ++ [f]) → K M') : q_Cv X d 33 [.ref 64, .int (nI (f_bits f)), .int (nI p)] M K := by
  have hRC := b_RC hw
  have hn3 := hw.2.2.1
  have hco : ∀ c, c < R * C → co c ≤ 9 := fun c hc => (hw.2.2.2.2.1 c hc).2.1
  have hfb := f_bits_lt hcells hRC
  have hfb1 : ∀ q ∈ f, g_bits q < 2 ^ 30 := fun q hq => g_bits_31 (hcells q hq) hRC
  have hcl := z_cnt_le F
  have hcost := f_cost_le (b := f_bits f) (R * C) hco
  refine vc33 ⟨fun _ => ?_, fun g => absurd (q_0le (by omega)) g⟩
  have hv9 : vp_in (nI p) 9 := q_vi hp9 (by decide)
  have loop : ∀ (j i : Nat) (M1 : q_M), i + j = R * C → (∀ k, k ≠ 69 + p → k ≠ 79 + p → M1 k = M k) → (∀ c, c < R * C → M1 (69 + p) c = nI (if c < i then z_cnt (F ++ [f]) c else z_cnt F c) ∧ M1 (79 + p) c = nI (if c < i then z_who (F ++ [f]) c else z_who F c)) → q_Ex X d 33 10 [some (.ref 64), some (.int (nI (f_bits f))), some (.int (nI p)), some (.int (nI (f_cost co (f_bits f) i))), some (.int (nI i))] [] M1 (q_rn K) := by
    intro j
    induction j with
    | zero =>
      intro i M1 hi g1 g2
      have ei : i = R * C := by omega
      have g3 : ∀ c, c < R * C → M1 (69 + p) c = nI (z_cnt (F ++ [f]) c) ∧ M1 (79 + p) c = nI (z_who (F ++ [f]) c) := fun c hc => by
        obtain ⟨a, b⟩ := g2 c hc
        rw [if_pos (by omega)] at a b
        exact ⟨a, b⟩
      refine vc33_p10 (by omega) ⟨fun _ => ⟨hv9, ?_⟩, fun g => absurd (by rw [g1 11 (by omega) (by omega), hb.2.2.1, q_le (by omega) (by omega)]; omega) g⟩
      rw [q_cn (by omega), g1 66 (by omega) (by omega), g1 67 (by omega) (by omega), hs.1, hs.2.1, nI_1, ei]
      have fin : ∀ (M2 : q_M) (v : Nat), (∀ k, k ≠ 66 → k ≠ 67 → M2 k = M1 k) → (∀ j, j ≠ p → M2 66 j = M1 66 j) → (∀ j, j ≠ p → M2 67 j = M1 67 j) → M2 66 p = nI (F.length + 1) → M2 67 p = nI v → (z_least co (R * C) (F ++ [f])).getD 0 = v → K M2 := by
        intro M2 v k1 k2 k3 k4 k5 k6
        refine h M2 ⟨fun k a b c e => by rw [k1 k a b]; exact g1 k c e, fun j hj => by rw [k2 j hj, g1 66 (by omega) (by omega)], fun j hj => by rw [k3 j hj, g1 67 (by omega) (by omega)]⟩ ⟨by rw [k4]; simp, by rw [k5, k6], fun c hc => ?_⟩
        rw [k1 (69 + p) (by omega) (by omega), k1 (79 + p) (by omega) (by omega)]
        exact g3 c hc
      have lp := z_least_push co (R * C) F f
      refine ⟨fun g => ⟨hv9, hv9, hv9, ?_⟩, fun g => ⟨hv9, ?_⟩⟩
      · have hF0 : F = [] := by
          have : F.length = 0 := (q_eq (b := 0) (by omega) (by omega)).mp g
          exact List.length_eq_zero_iff.mp this
        refine fin _ (f_cost co (f_bits f) (R * C)) (fun k a b => by rw [q_set_n a, q_set_n b]) (fun j hj => by rw [q_set_ap, if_neg (by omega), q_set_n (by decide)]) (fun j hj => by rw [q_set_n (by decide), q_set_ap, if_neg (by omega)]) (by simp [q_set_ap]) (by simp [q_set_ap]) ?_
        rw [lp, hF0]; rfl
      · have hF0 : F ≠ [] := fun q => g (by rw [q]; rfl)
        obtain ⟨m, hm⟩ : ∃ m, z_least co (R * C) F = some m := by
          cases hl : z_least co (R * C) F with
          | some m => exact ⟨m, rfl⟩
          | none =>
            exfalso
            rcases List.eq_nil_or_concat F with q | ⟨G, x, rfl⟩
            · exact hF0 q
            · rw [List.concat_eq_append, z_least_push] at hl
              unfold z_mn at hl
              split at hl
              · cases hl
              · split at hl <;> cases hl
        have hm9 := z_least_le hco hm
        rw [hm] at lp
        rw [hm, show (some m).getD 0 = m from rfl, q_le (by omega) (by omega)]
        refine ⟨fun g4 => ⟨hv9, hv9, ?_⟩, fun g4 => ⟨hv9, hv9, hv9, ?_⟩⟩
        · refine fin _ m (fun k a b => by rw [q_set_n a]) (fun j hj => by rw [q_set_ap, if_neg (by omega)]) (fun j hj => by rw [q_set_n (by decide)]) (by simp [q_set_ap]) (by rw [q_set_n (by decide), g1 67 (by omega) (by omega), hs.2.1, hm]; rfl) ?_
          rw [lp]; unfold z_mn; dsimp only; rw [if_neg (by omega)]; rfl
        · refine fin _ (f_cost co (f_bits f) (R * C)) (fun k a b => by rw [q_set_n a, q_set_n b]) (fun j hj => by rw [q_set_ap, if_neg (by omega), q_set_n (by decide)]) (fun j hj => by rw [q_set_n (by decide), q_set_ap, if_neg (by omega)]) (by simp [q_set_ap]) (by simp [q_set_ap]) ?_
          rw [lp]; unfold z_mn; dsimp only; rw [if_pos (by omega)]; rfl
    | succ j ih =>
      intro i M1 hi g1 g2
      have hi2 : i < R * C := by omega
      have hv30 : vp_in (nI i) 30 := q_vi (by omega) (by decide)
      obtain ⟨a1, a2⟩ := g2 i hi2
      rw [if_neg (by omega)] at a1 a2
      refine vc33_p10 (by omega) ⟨fun g => ?_, fun _ => ?_⟩
      · rw [g1 11 (by omega) (by omega), hb.2.2.1, q_le (by omega) (by omega)] at g; omega
      · have hce : f_cost co (f_bits f) (i + 1) = f_cost co (f_bits f) i + (if (f_bits f).testBit i then co i else 0) := rfl
        rw [q_cn (show p < 2 ^ 31 by omega), q_cn (show i < 2 ^ 31 by omega), nI_1]
        refine c_isIn (by omega) (by omega) (fun _ hbt => ⟨fun g => absurd g (by decide), fun _ => ?_⟩) (fun hbt => ⟨fun _ => ?_, fun g => absurd rfl g⟩)
        · rw [if_pos hbt] at hce
          refine ⟨hv30, hv9, hv30, hv30, hv9, hv30, ?_⟩
          refine c_doorsPicked (f := f) (by omega) hn3 (by rw [q_set_n (by omega), g1 44 (by omega) (by omega)]; exact hn) (by omega) hfl hfb1 (fun dr q hq => by rw [q_set_n (by omega), g1 65 (by omega) (by omega)]; exact hpk dr q hq) ⟨hv30, ?_⟩
          rw [a1, q_set_n (show 79 + p ≠ 69 + p by omega), a2, n_or, nI_1, g1 13 (by omega) (by omega), (hb.2.2.2.2.2.1 i hi2).2.1, nI_add, ← hce, ← z_who_push]
          refine ih (i + 1) _ (by omega) (fun k a b => by rw [q_set_n b, q_set_n a]; exact g1 k a b) (fun c hc => ⟨?_, ?_⟩)
          · rw [q_set_n (show 69 + p ≠ 79 + p by omega), q_set_ap]
            by_cases q : c = i
            · subst q
              rw [if_pos ⟨rfl, rfl⟩, if_pos (by omega), z_cnt_push, if_pos hbt]
            · rw [if_neg (fun g => q g.2), (g2 c hc).1, q_if _ _ q]
          · rw [q_set_ap]
            by_cases q : c = i
            · subst q
              rw [if_pos ⟨rfl, rfl⟩, if_pos (by omega)]
            · rw [if_neg (fun g => q g.2), q_set_n (show 79 + p ≠ 69 + p by omega), (g2 c hc).2, q_if _ _ q]
        · have hb0 := hbt (by omega)
          have hce2 : f_cost co (f_bits f) (i + 1) = f_cost co (f_bits f) i := by rw [hce, hb0]; rfl
          rw [← hce2]
          refine ih (i + 1) M1 (by omega) g1 (fun c hc => ⟨?_, ?_⟩)
          · rw [(g2 c hc).1]
            by_cases q : c = i
            · subst q
              rw [if_neg (by omega), if_pos (by omega), z_cnt_push, if_neg (by rw [hb0]; decide)]; rfl
            · rw [q_if _ _ q]
          · rw [(g2 c hc).2]
            by_cases q : c = i
            · subst q
              rw [if_neg (by omega), if_pos (by omega), z_who_push, f_who_0 f 0 hb0, Nat.or_zero]
            · rw [q_if _ _ q]
  exact loop (R * C) 0 M (by omega) (fun _ _ _ => rfl) (fun c hc => by rw [if_neg (by omega), if_neg (by omega)]; exact hs.2.2 c hc)
end Note
