section Gath2
variable {X : Nat × (Nat → Int32)} {R C n : Nat} {kd co nu dc wc : Nat → Nat}
theorem f_bits_lt {f : List (List Nat)} {N : Nat} (h : ∀ p ∈ f, ∀ c ∈ p, c < N) (hN : N ≤ 30) : f_bits f < 2 ^ 30 := g_bits_31 (fun c hc => by
  obtain ⟨p, hp, h2⟩ := List.mem_flatten.mp hc
  exact h p hp c h2) hN
theorem n_bit1 {a c : Nat} (ha : a < 2 ^ 31) (hc : c < 32) : ((nI a >>> (nI c &&& 31)) &&& 1) = 1 ↔ a.testBit c = true := by
  rw [n_bitN ha hc]
  by_cases h : a.testBit c = true
  · simp [h]; rfl
  · simp [h]; decide
theorem z_least_le {N : Nat} {F : List (List (List Nat))} (hco : ∀ c, c < N → co c ≤ 9) {m : Nat} (h : z_least co N F = some m) : m ≤ 9 * N := by
  unfold z_least at h
  have key : ∀ (G : List (List (List Nat))) (a : Option Nat), (∀ m, a = some m → m ≤ 9 * N) → ∀ m, G.foldl (fun a f => z_mn a (f_cost co (f_bits f) N)) a = some m → m ≤ 9 * N := by
    intro G
    induction G with
    | nil => intro a ha m hm; exact ha m hm
    | cons f r ih =>
      intro a ha m hm
      refine ih _ (fun x hx => ?_) m hm
      have hc := f_cost_le (co := co) (b := f_bits f) N hco
      cases a with
      | none => simp [z_mn] at hx; omega
      | some y =>
        have hy := ha y rfl
        unfold z_mn at hx
        dsimp only at hx
        split at hx
        · cases hx; exact hc
        · cases hx; exact hy
  exact key F none (fun m h => by cases h) m h
theorem r_gathers (hw : r_wf R C n kd nu dc wc) {d sb : Nat} {M : q_M} {K : q_M → Prop} {W : Nat → List (List Nat)} {wk : Option Nat} {F : List (List (List Nat))} {f : List (List Nat)} {ix : Nat → Nat} (hd : 2 ≤ d) (hb : r_b M R C n kd co nu) (hco : ∀ c, c < R * C → co c ≤ 9) (hz : z_at M n (R * C) co W sb wk F) (hv : ∀ dr, dr < n → v_at M dr nu (W dr)) (hWl : ∀ dr, dr < n → (W dr).length ≤ 126)
    (hp : ∀ dr, dr < n → ∃ p, M 110 dr = nI (ix dr) ∧ (W dr)[ix dr]? = some p ∧ f[dr]? = some p) (hfl : f.length = n) (hF : F.length < 2 ^ 30) (hFl : ∀ g ∈ F, g.length ≤ 3) (hcells : ∀ p ∈ f, ∀ c ∈ p, c < R * C) (hsb : sb < 2 ^ 30) (hwk : ∀ k, wk = some k → k < 2 ^ 31)
    (h : ∀ M', (∀ k, k ≠ 97 → k ≠ 111 → k ≠ 112 → k ≠ 113 → M' k = M k) → (∀ j, j ≠ 20 → j ≠ 21 → j ≠ 22 → M' 97 j = M 97 j) → z_at M' n (R * C) co W sb wk (F ++ [f]) → K M') : q_Cv X d 118 [.ref 97, .int (nI (f_bits f))] M K := by
  have hRC := r_RC hw
  have hn3 := hw.2.2.1
  have hfb := f_bits_lt hcells hRC
  obtain ⟨z1, z2, z3, z4, z5, z6, z7⟩ := hz
  have hc1 := fun c => z_cnt_le F c
  -- the last part: families, found ways
  have last : ∀ M3 : q_M, (∀ k, k ≠ 97 → k ≠ 111 → k ≠ 112 → k ≠ 113 → M3 k = M k) → (∀ j, j ≠ 21 → j ≠ 22 → M3 97 j = M 97 j) → M3 97 21 = g_oj (z_least co (R * C) (F ++ [f])) → M3 97 22 = nI (z_fit (F ++ [f]) sb) → (∀ c, c < R * C → M3 112 c = nI (z_cnt (F ++ [f]) c) ∧ M3 113 c = nI (z_who (F ++ [f]) c)) → (wk = some F.length → ∀ dr, dr < n → M3 111 dr = nI (ix dr)) → (wk ≠ some F.length → M3 111 = M 111) → K (q_set M3 97 20 (M3 97 20 + 1)) := by
    intro M3 f1 f2 f3 f4 f5 f6 f7
    refine h _ (fun k a b c e => by rw [q_set_n a]; exact f1 k a b c e) (fun j a b c => by rw [q_set_ap, if_neg (by omega)]; exact f2 j b c) ⟨?_, ?_, ?_, ?_, ?_, ?_, ?_⟩
    · rw [q_set_ap, if_pos ⟨rfl, rfl⟩, f2 20 (by decide) (by decide), z1, nI_1]; simp
    · rw [q_set_ap, if_neg (by omega)]; exact f3
    · rw [q_set_ap, if_neg (by omega)]; exact f4
    · rw [q_set_ap, if_neg (by omega), f2 23 (by decide) (by decide)]; exact z4
    · rw [q_set_ap, if_neg (by omega), f2 24 (by decide) (by decide)]; exact z5
    · intro c hc
      rw [q_set_n (by decide), q_set_n (by decide)]; exact f5 c hc
    · intro k g hk hg dr hdr
      rw [q_set_n (by decide)]
      by_cases e : k < F.length
      · rw [List.getElem?_append_left e] at hg
        have ne : wk ≠ some F.length := by rw [hk]; intro q; cases q; omega
        rw [f7 ne]
        exact z7 k g hk hg dr hdr
      · have e2 : k = F.length := by
          have := (List.getElem?_eq_some_iff.mp hg).1
          simp at this; omega
        subst e2
        simp at hg
        subst hg
        obtain ⟨p, h1, h2, h3⟩ := hp dr hdr
        exact ⟨ix dr, f6 hk dr hdr, (List.getElem?_eq_some_iff.mp h2).1, by rw [h2, h3]⟩
  -- doors
  have doors : ∀ (j e : Nat) (M3 : q_M), e + j = n → (∀ k, k ≠ 97 → k ≠ 111 → k ≠ 112 → k ≠ 113 → M3 k = M k) → (∀ j, j ≠ 21 → j ≠ 22 → M3 97 j = M 97 j) → M3 97 21 = g_oj (z_least co (R * C) (F ++ [f])) → M3 97 22 = nI (z_fit (F ++ [f]) sb) → (∀ c, c < R * C → M3 112 c = nI (z_cnt (F ++ [f]) c) ∧ M3 113 c = nI (z_who F c ||| f_who 0 (f.take e) c)) → (wk = some F.length → ∀ dr, dr < e → M3 111 dr = nI (ix dr)) → (wk ≠ some F.length → M3 111 = M 111) → q_Ex X d 118 81 [some (.ref 97), none, none, some (.int (nI e)), none] [] M3 (q_rn K) := by
    intro j
    induction j with
    | zero =>
      intro e M3 he f1 f2 f3 f4 f5 f6 f7
      refine vc118_p81 ⟨fun _ => ?_, fun g => absurd ?_ g⟩
      · refine last M3 f1 f2 f3 f4 (fun c hc => ⟨(f5 c hc).1, ?_⟩) (fun hk dr hdr => f6 hk dr (by omega)) f7
        rw [(f5 c hc).2, z_who_push, show e = f.length by omega, List.take_length]
      · rw [f1 99 (by decide) (by decide) (by decide) (by decide), hb.2.2.1, q_le (by omega) (by omega)]; omega
    | succ j ih =>
      intro e M3 he f1 f2 f3 f4 f5 f6 f7
      have he3 : e < n := by omega
      obtain ⟨p, p1, p2, p3⟩ := hp e he3
      have hix := (List.getElem?_eq_some_iff.mp p2).1
      have hW := hWl e he3
      have hpm : p ∈ f := List.mem_of_getElem? p3
      have hpb : g_bits p < 2 ^ 30 := g_bits_31 (hcells p hpm) hRC
      have etake : f.take (e + 1) = f.take e ++ [p] := by
        rw [List.take_add_one, p3]; rfl
      have etl : (f.take e).length = e := by rw [List.length_take]; omega
      have hwh : ∀ c, f_who 0 (f.take (e + 1)) c = f_who 0 (f.take e) c ||| (if (g_bits p).testBit c then 2 ^ e else 0) := fun c => by
        rw [etake, f_who_snoc, etl, Nat.zero_add]
      refine vc118_p81 ⟨fun g => ?_, fun _ => ?_⟩
      · rw [f1 99 (by decide) (by decide) (by decide) (by decide), hb.2.2.1, q_le (by omega) (by omega)] at g; omega
      have inner : ∀ (t i : Nat) (M4 : q_M), i + t = R * C → (∀ k, k ≠ 113 → M4 k = M3 k) → (∀ c, c < R * C → M4 113 c = nI (z_who F c ||| f_who 0 (f.take (if c < i then e + 1 else e)) c)) → q_Ex X d 118 94 [some (.ref 97), none, none, some (.int (nI e)), some (.int (nI i))] [] M4 (q_rn K) := by
        intro t
        induction t with
        | zero =>
          intro i M4 hi g1 g2
          have hb4 : r_b M4 R C n kd co nu := hb.eq (by rw [g1 99 (by decide)]; exact f1 99 (by decide) (by decide) (by decide) (by decide))
          have e20 : M4 97 20 = nI F.length := by rw [g1 97 (by decide), f2 20 (by decide) (by decide)]; exact z1
          have e23 : M4 97 23 = g_oj wk := by rw [g1 97 (by decide), f2 23 (by decide) (by decide)]; exact z4
          have g3 : ∀ c, c < R * C → M4 113 c = nI (z_who F c ||| f_who 0 (f.take (e + 1)) c) := fun c hc => by rw [g2 c hc, if_pos (by omega)]
          refine vc118_p94 (by omega) (r_cells hb4 ⟨fun _ => ?_, fun g => absurd ((q_le (by omega) (by omega)).mpr (by omega)) g⟩)
          rw [e20, e23, nI_1]
          refine ⟨fun g => ?_, fun g => ⟨q_vi (by omega) (by decide), q_vi (by omega) (by decide), ?_⟩⟩
          · have ne : wk ≠ some F.length := by intro q; rw [q] at g; exact g rfl
            refine ih (e + 1) M4 (by omega) (fun k a b c q => by rw [g1 k q]; exact f1 k a b c q) (fun j a b => by rw [g1 97 (by decide)]; exact f2 j a b) (by rw [g1 97 (by decide)]; exact f3) (by rw [g1 97 (by decide)]; exact f4) (fun c hc => ⟨by rw [g1 112 (by decide)]; exact (f5 c hc).1, g3 c hc⟩) (fun hk => absurd hk ne) (fun _ => by rw [g1 111 (by decide)]; exact f7 ne)
          · have eq : wk = some F.length := by
              cases hk : wk with
              | none => rw [hk] at g; exact absurd (show g_oj none < 0 by decide) (by rw [← g]; exact q_nlt0 (by omega))
              | some k => rw [hk] at g; rw [(q_eq (by omega) (hwk k hk)).mp g]
            rw [q_cn (by omega)]
            refine ih (e + 1) _ (by omega) (fun k a b c q => by rw [q_set_n b, g1 k q]; exact f1 k a b c q) (fun j a b => by rw [q_set_n (by decide), g1 97 (by decide)]; exact f2 j a b) (by rw [q_set_n (by decide), g1 97 (by decide)]; exact f3) (by rw [q_set_n (by decide), g1 97 (by decide)]; exact f4) (fun c hc => ⟨by rw [q_set_n (by decide), g1 112 (by decide)]; exact (f5 c hc).1, by rw [q_set_n (by decide)]; exact g3 c hc⟩) (fun hk dr hdr => ?_) (fun ne => absurd eq ne)
            rw [q_set_ap]
            by_cases q : dr = e
            · subst q
              rw [if_pos ⟨rfl, rfl⟩, g1 110 (by decide), f1 110 (by decide) (by decide) (by decide) (by decide)]
              exact p1
            · rw [if_neg (by omega), g1 111 (by decide)]
              exact f6 hk dr (by omega)
        | succ t iht =>
          intro i M4 hi g1 g2
          have hi2 : i < R * C := by omega
          have hb4 : r_b M4 R C n kd co nu := hb.eq (by rw [g1 99 (by decide)]; exact f1 99 (by decide) (by decide) (by decide) (by decide))
          have e110 : M4 110 (Int32.toNatClampNeg (nI e)) = nI (ix e) := by
            rw [q_cn (by omega), g1 110 (by decide), f1 110 (by decide) (by decide) (by decide) (by decide)]; exact p1
          have e104 : M4 104 (400 * e + ix e) = nI (g_bits p) := by
            rw [g1 104 (by decide), f1 104 (by decide) (by decide) (by decide) (by decide)]; exact ((hv e he3).2 (ix e) p p2).1
          refine vc118_p94 (by omega) (r_cells hb4 ⟨fun g => absurd ((q_le (by omega) (by omega)).mp g) (by omega), fun _ => ?_⟩)
          rw [e110, show (400 : Int32) * nI e = nI (400 * e) from pk_mul 400 e, nI_add, q_cn (show 400 * e + ix e < 2 ^ 31 by omega), e104, n_bit1 (by omega) (by omega), q_cn (show i < 2 ^ 31 by omega), nI_1]
          refine ⟨q_vi (by omega) (by decide), q_vi (by omega) (by decide), fun g => ?_, fun g => ⟨q_vi (by omega) (by decide), q_vi (by omega) (by decide), ?_⟩⟩
          · refine iht (i + 1) M4 (by omega) g1 (fun c hc => ?_)
            rw [g2 c hc]
            by_cases q : c = i
            · subst q
              rw [if_neg (by omega), if_pos (by omega), hwh, if_neg g, Nat.or_zero]
            · by_cases q2 : c < i
              · rw [if_pos q2, if_pos (by omega)]
              · rw [if_neg q2, if_neg (by omega)]
          · refine iht (i + 1) _ (by omega) (fun k hk => by rw [q_set_n hk]; exact g1 k hk) (fun c hc => ?_)
            rw [q_set_ap]
            by_cases q : c = i
            · subst q
              rw [if_pos ⟨rfl, rfl⟩, g2 c hc, if_neg (by omega), if_pos (by omega), n_sh e (by omega), n_or, hwh, if_pos g, Nat.or_assoc]
            · rw [if_neg (by omega), g2 c hc]
              by_cases q2 : c < i
              · rw [if_pos q2, if_pos (by omega)]
              · rw [if_neg q2, if_neg (by omega)]
      exact inner (R * C) 0 M3 (by omega) (fun _ _ => rfl) (fun c hc => by rw [if_neg (by omega)]; exact (f5 c hc).2)
  -- used cells
  have rest : ∀ M1 : q_M, (∀ k, k ≠ 97 → M1 k = M k) → (∀ j, j ≠ 21 → j ≠ 22 → M1 97 j = M 97 j) → M1 97 21 = g_oj (z_least co (R * C) (F ++ [f])) → M1 97 22 = nI (z_fit (F ++ [f]) sb) → q_Ex X d 118 51 [some (.ref 97), some (.int (nI (f_bits f))), none, some (.int 0), none] [] M1 (q_rn K) := by
    intro M1 f1 f2 f3 f4
    have loop : ∀ (j i : Nat) (M2 : q_M), i + j = R * C → (∀ k, k ≠ 112 → M2 k = M1 k) → (∀ c, c < R * C → M2 112 c = nI (if c < i then z_cnt (F ++ [f]) c else z_cnt F c)) → q_Ex X d 118 51 [some (.ref 97), some (.int (nI (f_bits f))), none, some (.int (nI i)), none] [] M2 (q_rn K) := by
      intro j
      induction j with
      | zero =>
        intro i M2 hi g1 g2
        have hb2 : r_b M2 R C n kd co nu := hb.eq (by rw [g1 99 (by decide)]; exact f1 99 (by decide))
        refine vc118_p51 (by omega) (r_cells hb2 ⟨fun _ => ?_, fun g => absurd ((q_le (by omega) (by omega)).mpr (by omega)) g⟩)
        refine doors n 0 M2 (by omega) (fun k a b c e => by rw [g1 k c]; exact f1 k a) (fun j a b => by rw [g1 97 (by decide)]; exact f2 j a b) (by rw [g1 97 (by decide)]; exact f3) (by rw [g1 97 (by decide)]; exact f4) (fun c hc => ⟨by rw [g2 c hc, if_pos (by omega)], ?_⟩) (fun _ dr hdr => by omega) (fun _ => by rw [g1 111 (by decide), f1 111 (by decide)])
        rw [g1 113 (by decide), f1 113 (by decide), (z6 c hc).2]
        simp [f_who]
      | succ j ih =>
        intro i M2 hi g1 g2
        have hi2 : i < R * C := by omega
        have hb2 : r_b M2 R C n kd co nu := hb.eq (by rw [g1 99 (by decide)]; exact f1 99 (by decide))
        refine vc118_p51 (by omega) (r_cells hb2 ⟨fun g => absurd ((q_le (by omega) (by omega)).mp g) (by omega), fun _ => ⟨q_vi (by omega) (by decide), q_vi (by omega) (by decide), ?_⟩⟩)
        rw [q_cn (by omega), n_bitN (by omega) (by omega), g2 i hi2, if_neg (by omega), nI_add, nI_1, ← z_cnt_push]
        refine ih (i + 1) _ (by omega) (fun k hk => by rw [q_set_n hk]; exact g1 k hk) (fun c hc => ?_)
        rw [q_set_ap]
        by_cases q : c = i
        · subst q; rw [if_pos ⟨rfl, rfl⟩, if_pos (by omega)]
        · rw [if_neg (by omega), g2 c hc]
          by_cases q2 : c < i
          · rw [if_pos q2, if_pos (by omega)]
          · rw [if_neg q2, if_neg (by omega)]
    exact loop (R * C) 0 M1 (by omega) (fun _ _ => rfl) (fun c hc => by rw [if_neg (by omega), f1 112 (by decide)]; exact (z6 c hc).1)
  refine vc118 (by omega) (r_costOf hw (by omega) hb hco (by omega) ?_)
  have hcost := f_cost_le (b := f_bits f) (R * C) hco
  rw [z2, z3, z5, n_and, q_eq (Nat.lt_of_le_of_lt Nat.and_le_right (by omega)) (by omega), nI_1]
  have fit1 : f_bits f &&& sb = sb → z_fit F sb + 1 = z_fit (F ++ [f]) sb := fun q => by rw [z_fit_push, if_pos (by simpa using q)]
  have fit0 : ¬ f_bits f &&& sb = sb → z_fit F sb = z_fit (F ++ [f]) sb := fun q => by rw [z_fit_push, if_neg (by simpa using q)]; rfl
  have lp := z_least_push co (R * C) F f
  have e22 : M 97 22 = nI (z_fit F sb) := z3
  cases hl : z_least co (R * C) F with
  | none =>
    rw [hl] at lp
    have lp2 : nI (f_cost co (f_bits f) (R * C)) = g_oj (z_least co (R * C) (F ++ [f])) := by rw [lp]; rfl
    refine ⟨fun _ => ⟨fun g => ?_, fun g => ?_⟩, fun g => absurd (show (-9 : Int32) < 0 by decide) g⟩
    · exact rest _ (fun k hk => q_set_n hk) (fun j a b => by rw [q_set_ap, if_neg (by omega)]) (by rw [q_set_ap, if_pos ⟨rfl, rfl⟩]; exact lp2) (by rw [q_set_ap, if_neg (by omega), e22, fit0 g])
    · exact rest _ (fun k hk => by rw [q_set_n hk, q_set_n hk]) (fun j a b => by rw [q_set_ap, if_neg (by omega), q_set_ap, if_neg (by omega)]) (by rw [q_set_ap, if_neg (by omega), q_set_ap, if_pos ⟨rfl, rfl⟩]; exact lp2) (by rw [q_set_ap, if_pos ⟨rfl, rfl⟩, fit1 g])
  | some m =>
    rw [hl] at lp
    have hm := z_least_le hco hl
    rw [show g_oj (some m) = nI m from rfl, q_le (by omega) (by omega)]
    refine ⟨fun g => absurd g (q_nlt0 (by omega)), fun _ => ⟨fun g1 => ?_, fun g1 => ?_⟩⟩
    · have lp2 : nI m = g_oj (z_least co (R * C) (F ++ [f])) := by rw [lp]; unfold z_mn; dsimp only; rw [if_neg (by omega)]; rfl
      have e21 : M 97 21 = nI m := by rw [z2, hl]; rfl
      refine ⟨fun g => ?_, fun g => ?_⟩
      · exact rest M (fun k hk => rfl) (fun j a b => rfl) (by rw [e21]; exact lp2) (by rw [e22, fit0 g])
      · exact rest _ (fun k hk => q_set_n hk) (fun j a b => by rw [q_set_ap, if_neg (by omega)]) (by rw [q_set_ap, if_neg (by omega), e21]; exact lp2) (by rw [q_set_ap, if_pos ⟨rfl, rfl⟩, fit1 g])
    · have lp2 : nI (f_cost co (f_bits f) (R * C)) = g_oj (z_least co (R * C) (F ++ [f])) := by rw [lp]; unfold z_mn; dsimp only; rw [if_pos (by omega)]; rfl
      refine ⟨fun g => ?_, fun g => ?_⟩
      · exact rest _ (fun k hk => q_set_n hk) (fun j a b => by rw [q_set_ap, if_neg (by omega)]) (by rw [q_set_ap, if_pos ⟨rfl, rfl⟩]; exact lp2) (by rw [q_set_ap, if_neg (by omega), e22, fit0 g])
      · exact rest _ (fun k hk => by rw [q_set_n hk, q_set_n hk]) (fun j a b => by rw [q_set_ap, if_neg (by omega), q_set_ap, if_neg (by omega)]) (by rw [q_set_ap, if_neg (by omega), q_set_ap, if_pos ⟨rfl, rfl⟩]; exact lp2) (by rw [q_set_ap, if_pos ⟨rfl, rfl⟩, fit1 g])
end Gath2
