/-! ways of one alone -/
def g_os (o : Option Nat) (F : Nat → Nat) : Nat := match o with
  | none => 0
  | some t => F t
def g_al (R C : Nat) (kd : Nat → Nat) (g : Nat) : Nat → Nat → Nat
  | 0, c => if c = g then 1 else 0
  | f + 1, c => if c = g then 1 else g_os (g_nx R C kd c 0) (g_al R C kd g f) + g_os (g_nx R C kd c 1) (g_al R C kd g f)
theorem g_al_up {R C : Nat} {kd : Nat → Nat} {g : Nat} (hC : 0 < C) : ∀ (f c : Nat), c < R * C → g_far R C c ≤ f → g_al R C kd g f c = g_al R C kd g (f + 1) c := by
  intro f
  induction f with
  | zero =>
    intro c hc h
    have no : ∀ st, g_nx R C kd c st = none := fun st => by
      cases hn : g_nx R C kd c st with
      | none => rfl
      | some t => have := (g_nx_far hC hc hn).2; omega
    rw [g_al, g_al, no 0, no 1]
    rfl
  | succ f ih =>
    intro c hc h
    have e : ∀ st, g_os (g_nx R C kd c st) (g_al R C kd g f) = g_os (g_nx R C kd c st) (g_al R C kd g (f + 1)) := fun st => by
      cases hn : g_nx R C kd c st with
      | none => rfl
      | some t =>
        obtain ⟨h1, h2⟩ := g_nx_far hC hc hn
        exact ih t h1 (by omega)
    rw [g_al, g_al, e 0, e 1]
theorem g_al_eq' {R C : Nat} {kd : Nat → Nat} {g : Nat} (hC : 0 < C) (f : Nat) {c : Nat} (hc : c < R * C) (hf : g_far R C c ≤ f + 1) : g_al R C kd g (f + 1) c = if c = g then 1 else g_os (g_nx R C kd c 0) (g_al R C kd g (f + 1)) + g_os (g_nx R C kd c 1) (g_al R C kd g (f + 1)) := by
  have e : ∀ st, g_os (g_nx R C kd c st) (g_al R C kd g f) = g_os (g_nx R C kd c st) (g_al R C kd g (f + 1)) := fun st => by
    cases hn : g_nx R C kd c st with
    | none => rfl
    | some t =>
      obtain ⟨h1, h2⟩ := g_nx_far hC hc hn
      exact g_al_up hC f t h1 (by omega)
  rw [← e 0, ← e 1, g_al]
theorem g_al_eq {R C : Nat} {kd : Nat → Nat} {g : Nat} (hC : 0 < C) (hR6 : R ≤ 6) (hC5 : C ≤ 5) {c : Nat} (hc : c < R * C) : g_al R C kd g 10 c = if c = g then 1 else g_os (g_nx R C kd c 0) (g_al R C kd g 10) + g_os (g_nx R C kd c 1) (g_al R C kd g 10) := g_al_eq' hC 9 hc (by have := g_far_le (c := c) hR6 hC5; omega)
theorem g_nx_gt {R C : Nat} {kd : Nat → Nat} {c t st : Nat} (hC : 0 < C) (h : g_nx R C kd c st = some t) : c < t := by
  by_cases h0 : st = 0
  · subst h0
    have := (g_nx0 h).1
    omega
  · have h' : g_nx R C kd c 1 = some t := by
      unfold g_nx at h ⊢
      rw [if_neg h0] at h
      rw [if_neg (by decide)]
      exact h
    have := (g_nx1 h').1
    omega
theorem g_al_gt {R C : Nat} {kd : Nat → Nat} {g : Nat} (hC : 0 < C) : ∀ (f c : Nat), g < c → g_al R C kd g f c = 0 := by
  intro f
  induction f with
  | zero => intro c h; rw [g_al, if_neg (by omega)]
  | succ f ih =>
    intro c h
    have e : ∀ st, g_os (g_nx R C kd c st) (g_al R C kd g f) = 0 := fun st => by
      cases hn : g_nx R C kd c st with
      | none => rfl
      | some t =>
        have := g_nx_gt hC hn
        exact ih t (by omega)
    rw [g_al, if_neg (by omega), e 0, e 1]
/-- sums over k places from i on -/
def g_ts (f : Nat → Nat) : Nat → Nat → Nat
  | _, 0 => 0
  | i, k + 1 => f i + g_ts f (i + 1) k
theorem g_ts_cong {f g : Nat → Nat} : ∀ (k i : Nat), (∀ x, i ≤ x → x < i + k → f x = g x) → g_ts f i k = g_ts g i k := by
  intro k
  induction k with
  | zero => intro i _; rfl
  | succ k ih =>
    intro i h
    rw [g_ts, g_ts, h i (Nat.le_refl i) (by omega), ih (i + 1) (fun x h1 h2 => h x (by omega) (by omega))]
theorem g_ts_zero {f : Nat → Nat} : ∀ (k i : Nat), (∀ x, i ≤ x → x < i + k → f x = 0) → g_ts f i k = 0 := by
  intro k
  induction k with
  | zero => intro i _; rfl
  | succ k ih =>
    intro i h
    rw [g_ts, h i (Nat.le_refl i) (by omega), ih (i + 1) (fun x h1 h2 => h x (by omega) (by omega))]
theorem g_ts_add {r P : Nat → Nat} {t a : Nat} : ∀ (k i : Nat), i ≤ t → t < i + k → g_ts (fun x => (if x = t then r x + a else r x) * P x) i k = g_ts (fun x => r x * P x) i k + a * P t := by
  intro k
  induction k with
  | zero => intro i h1 h2; omega
  | succ k ih =>
    intro i h1 h2
    rw [g_ts, g_ts]
    by_cases e : i = t
    · subst e
      rw [if_pos rfl, g_ts_cong (f := fun x => (if x = i then r x + a else r x) * P x) (g := fun x => r x * P x) k (i + 1) (fun x q1 q2 => by rw [if_neg (by omega)]), Nat.add_mul]
      omega
    · rw [if_neg e, ih (i + 1) (by omega) (by omega)]
      omega
section Alone
variable {X : Nat × (Nat → Int32)} {R C n : Nat} {kd co nu dc wc : Nat → Nat}
theorem c_waysAlone (hw : b_wf R C n kd co nu dc wc) {d a b : Nat} {M : q_M} {K : Int32 → q_M → Prop} (hd : 4 ≤ d) (hb : b_now M R C n kd co nu dc wc) (ha : a < n) (hb2 : b < n) (h : ∀ M', (∀ k, k ≠ 17 → M' k = M k) → K (nI (g_al R C kd (wc b) 10 (dc a))) M') : q_Ci X d 28 [.ref 11, .int (nI a), .int (nI b)] M K := by
  have hRC := b_RC hw
  obtain ⟨hda, -, -⟩ := hw.2.2.2.2.2.1 a ha
  obtain ⟨-, -, -, hwb, -⟩ := hw.2.2.2.2.2.1 b hb2
  obtain ⟨hR2, hC2⟩ := b_Cpos hw hda
  refine vc28 (by omega) (c_cellOfDoor hw (by omega) hb ha (c_cellOfWell hw (by omega) hb hb2 ?_))
  refine c_hasCell hb.2.2.1 (by omega) (fun j hj e => ⟨fun g => absurd g (by decide), fun _ => ?_⟩) (fun g => absurd rfl (g _ hda))
  refine c_hasCell hb.2.2.1 (by omega) (fun j hj e => ⟨fun _ => ?_, fun g => absurd g (by decide)⟩) (fun g => absurd rfl (g _ hwb))
  refine c_afill (na := 30) rfl (by decide) (fun M1 f1 z1 => ⟨q_vi (by omega) (by decide), ?_⟩)
  rw [q_cn (by omega)]
  have loop : ∀ (j i : Nat) (r : Nat → Nat) (M2 : q_M), (i + j = wc b ∨ (j = 0 ∧ wc b ≤ i)) → i < R * C → (∀ k, k ≠ 17 → M2 k = M k) → (∀ x, x < R * C → M2 17 x = nI (r x)) → (i ≤ wc b → g_ts (fun x => r x * g_al R C kd (wc b) 10 x) i (R * C - i) = g_al R C kd (wc b) 10 (dc a)) → (wc b < i → r (wc b) = g_al R C kd (wc b) 10 (dc a)) → q_Ex X d 28 50 [some (.ref 11), none, none, none, some (.int (nI (wc b))), some (.int (nI i)), none, none] [] M2 (q_ri K) := by
    intro j
    induction j with
    | zero =>
      intro i r M2 hi hiN f2 z2 s2 s3
      refine vc28_p50 ⟨fun _ => ⟨q_vi (by omega) (by decide), ?_⟩, fun g => absurd ((q_le (by omega) (by omega)).mpr (by omega)) g⟩
      rw [q_cn (by omega), z2 _ hwb]
      have e : r (wc b) = g_al R C kd (wc b) 10 (dc a) := by
        rcases Nat.lt_or_ge (wc b) i with q | q
        · exact s3 q
        · have ei : i = wc b := by omega
          have s4 := s2 (by omega)
          rw [ei, show R * C - wc b = (R * C - wc b - 1) + 1 by omega, g_ts, g_ts_zero (f := fun x => r x * g_al R C kd (wc b) 10 x) _ _ (fun x q1 q2 => by rw [g_al_gt (by omega) 10 x (by omega), Nat.mul_zero])] at s4
          have e1 : g_al R C kd (wc b) 10 (wc b) = 1 := by rw [g_al_eq (by omega) hw.1 hw.2.1 hwb, if_pos rfl]
          rw [e1] at s4
          omega
      rw [e]
      exact h M2 f2
    | succ j ih =>
      intro i r M2 hi hiN f2 z2 s2 s3
      have hib : i < wc b := by omega
      have hb2' : ∀ M3 : q_M, (∀ k, k ≠ 17 → M3 k = M k) → b_now M3 R C n kd co nu dc wc := fun M3 f3 => hb.eq (fun k a b => f3 k (by omega))
      refine vc28_p50 ⟨fun g => absurd ((q_le (by omega) (by omega)).mp g) (by omega), fun _ => ?_⟩
      have one : ∀ (st : Nat) (r1 : Nat → Nat) (M3 : q_M), st < 2 → (∀ k, k ≠ 17 → M3 k = M k) → (∀ x, x < R * C → M3 17 x = nI (r1 x)) → (∀ (r2 : Nat → Nat) (M4 : q_M), (∀ k, k ≠ 17 → M4 k = M k) → (∀ x, x < R * C → M4 17 x = nI (r2 x)) → r2 i = r1 i → g_ts (fun x => r2 x * g_al R C kd (wc b) 10 x) (i + 1) (R * C - (i + 1)) = g_ts (fun x => r1 x * g_al R C kd (wc b) 10 x) (i + 1) (R * C - (i + 1)) + r1 i * g_os (g_nx R C kd i st) (g_al R C kd (wc b) 10) → q_Ex X d 28 60 [some (.ref 11), none, none, none, some (.int (nI (wc b))), some (.int (nI i)), some (.int (nI (st + 1))), none] [] M4 (q_ri K)) → q_Ex X d 28 60 [some (.ref 11), none, none, none, some (.int (nI (wc b))), some (.int (nI i)), some (.int (nI st)), none] [] M3 (q_ri K) := by
        intro st r1 M3 hst f3 z3 hK
        refine vc28_p60 (by omega) ⟨fun g => absurd ((q_lt (a := 1) (by omega) (by omega)).mp g) (by omega), fun _ => ?_⟩
        refine c_onward hw (by omega) (hb2' M3 f3) hiN hst ?_
        rw [nI_1]
        cases hn : g_nx R C kd i st with
        | none =>
          rw [hn] at hK
          exact ⟨fun _ => hK r1 M3 f3 z3 rfl (by simp [g_os]), fun g => absurd (show (-1 : Int32) < 0 by decide) g⟩
        | some t =>
          rw [hn] at hK
          have ht := (g_nx_far (by omega) hiN hn).1
          have hit := g_nx_gt (by omega) hn
          rw [show g_oi (some t) = nI t from rfl]
          have hv : vp_in (nI t) 30 := q_vi (by omega) (by decide)
          refine ⟨fun g => absurd g (q_nlt0 (by omega)), fun _ => ⟨hv, q_vi (by omega) (by decide), hv, ?_⟩⟩
          rw [q_cn (by omega), q_cn (by omega), z3 t ht, z3 i hiN, nI_add]
          refine hK (fun x => if x = t then r1 x + r1 i else r1 x) _ (fun k hk => by rw [q_set_n hk]; exact f3 k hk) (fun x hx => ?_) ?_ ?_
          · rw [q_set_ap]
            by_cases e : x = t
            · subst e; rw [if_pos ⟨rfl, rfl⟩]; simp
            · rw [if_neg (fun q => e q.2), z3 x hx]; simp [e]
          · rw [if_neg (by omega)]
          · exact g_ts_add (r := r1) (P := g_al R C kd (wc b) 10) (t := t) (a := r1 i) _ _ (by omega) (by omega)
      refine one 0 r M2 (by decide) f2 z2 (fun r2 M3 f3 z3 e3 s4 => ?_)
      refine one 1 r2 M3 (by decide) f3 z3 (fun r5 M4 f4 z4 e4 s5 => ?_)
      refine vc28_p60 (by omega) ⟨fun _ => ?_, fun g => absurd (show (1 : Int32) < nI 2 by decide) g⟩
      rw [nI_1]
      refine ih (i + 1) r5 M4 (by omega) (by omega) f4 z4 (fun _ => ?_) (fun q => by omega)
      have s6 := s2 (by omega)
      rw [show R * C - i = (R * C - (i + 1)) + 1 by omega, g_ts, g_al_eq (by omega) hw.1 hw.2.1 hiN, if_neg (by omega), Nat.mul_add] at s6
      rw [s5, s4, e3, ← s6]
      omega
  have zz : ∀ x, x < R * C → (q_set M1 17 (dc a) 1) 17 x = nI (if x = dc a then 1 else 0) := fun x hx => by
    rw [q_set_ap]
    by_cases e : x = dc a
    · rw [if_pos ⟨rfl, e⟩, if_pos e]; rfl
    · rw [if_neg (fun q => e q.2), if_neg e, z1 x (by omega)]; rfl
  refine loop (wc b - dc a) (dc a) (fun x => if x = dc a then 1 else 0) _ (by omega) hda (fun k hk => by rw [q_set_n hk]; exact f1 k hk) zz (fun _ => ?_) (fun q => ?_)
  · rw [show R * C - dc a = (R * C - dc a - 1) + 1 by omega, g_ts, if_pos rfl, g_ts_zero (f := fun x => (if x = dc a then 1 else 0) * g_al R C kd (wc b) 10 x) _ _ (fun x q1 q2 => by rw [if_neg (by omega), Nat.zero_mul])]
    omega
  · rw [if_neg (by omega), g_al_gt (by omega) 10 (dc a) q]
theorem r_aloneFrom (hw : r_wf R C n kd nu dc wc) {g : Nat} (hg : g < R * C) : ∀ (f c d : Nat) (M : q_M) (K : Int32 → q_M → Prop), c < R * C → g_far R C c ≤ f → f + 2 ≤ d → r_b M R C n kd co nu → K (nI (g_al R C kd g f c)) M → q_Ci X d 114 [.ref 97, .int (nI c), .int (nI g)] M K := by
  have hRC := r_RC hw
  intro f
  induction f with
  | zero =>
    intro c d M K hc hfar hd hb h
    obtain ⟨hR2, hC2⟩ := r_Cpos hw hc
    have no : ∀ st, g_nx R C kd c st = none := fun st => by
      cases hn : g_nx R C kd c st with
      | none => rfl
      | some t => have := (g_nx_far (by omega) hc hn).2; omega
    refine vc114 ?_
    rw [q_eq (by omega) (by omega)]
    rw [g_al] at h
    refine ⟨fun q => ?_, fun q => by rw [if_pos q] at h; exact h⟩
    rw [if_neg q] at h
    have one : ∀ st, st < 2 → q_Ex X d 114 12 [some (.ref 97), some (.int (nI c)), some (.int (nI g)), some (.int 0), some (.int (nI (st + 1))), none] [] M (q_ri K) → q_Ex X d 114 12 [some (.ref 97), some (.int (nI c)), some (.int (nI g)), some (.int 0), some (.int (nI st)), none] [] M (q_ri K) := fun st hst hK => by
      refine vc114_p12 (by omega) ⟨fun g => absurd ((q_le (a := 2) (by omega) (by omega)).mp g) (by omega), fun _ => r_next hw (by omega) hb hc hst ?_⟩
      rw [no st, nI_1]
      exact ⟨fun _ => hK, fun g => absurd (show (-9 : Int32) < 0 by decide) g⟩
    exact one 0 (by decide) (one 1 (by decide) (vc114_p12 (by omega) ⟨fun _ => h, fun g => absurd (show (2 : Int32) ≤ nI 2 by decide) g⟩))
  | succ f ih =>
    intro c d M K hc hfar hd hb h
    obtain ⟨hR2, hC2⟩ := r_Cpos hw hc
    refine vc114 ?_
    rw [q_eq (by omega) (by omega)]
    rw [g_al] at h
    refine ⟨fun q => ?_, fun q => by rw [if_pos q] at h; exact h⟩
    rw [if_neg q] at h
    have one : ∀ st v, st < 2 → q_Ex X d 114 12 [some (.ref 97), some (.int (nI c)), some (.int (nI g)), some (.int (nI (v + g_os (g_nx R C kd c st) (g_al R C kd g f)))), some (.int (nI (st + 1))), none] [] M (q_ri K) → q_Ex X d 114 12 [some (.ref 97), some (.int (nI c)), some (.int (nI g)), some (.int (nI v)), some (.int (nI st)), none] [] M (q_ri K) := fun st v hst hK => by
      refine vc114_p12 (by omega) ⟨fun g => absurd ((q_le (a := 2) (by omega) (by omega)).mp g) (by omega), fun _ => r_next hw (by omega) hb hc hst ?_⟩
      rw [nI_1]
      cases hn : g_nx R C kd c st with
      | none =>
        rw [hn] at hK
        exact ⟨fun _ => hK, fun g => absurd (show (-9 : Int32) < 0 by decide) g⟩
      | some t =>
        rw [hn] at hK
        obtain ⟨ht, hft⟩ := g_nx_far (by omega) hc hn
        rw [show g_oj (some t) = nI t from rfl]
        refine ⟨fun g => absurd g (q_nlt0 (by omega)), fun _ => ih t (d - 1) M _ ht (by omega) (by omega) hb ?_⟩
        rw [nI_add]
        exact hK
    refine one 0 0 (by decide) (one 1 _ (by decide) (vc114_p12 (by omega) ⟨fun _ => ?_, fun g => absurd (show (2 : Int32) ≤ nI 2 by decide) g⟩))
    rw [Nat.zero_add]
    exact h
theorem r_aloneOf (hw : r_wf R C n kd nu dc wc) {d a b : Nat} {M : q_M} {K : Int32 → q_M → Prop} (hd : 14 ≤ d) (hb : r_b M R C n kd co nu) (ha : a < n) (hb2 : b < n) (h : K (nI (g_al R C kd (wc b) 10 (dc a))) M) : q_Ci X d 115 [.ref 97, .int (nI a), .int (nI b)] M K := by
  obtain ⟨hda, -, -⟩ := hw.2.2.2.2.2.1 a ha
  obtain ⟨-, -, -, hwb, -⟩ := hw.2.2.2.2.2.1 b hb2
  have hfar := g_far_le (c := dc a) hw.1 hw.2.1
  exact vc115 (by omega) (r_cellOfD hw (by omega) hb ha (r_cellOfW hw (by omega) hb hb2 (r_aloneFrom hw hwb 10 (dc a) (d - 1) M K hda (by omega) (by omega) hb h)))
/-- the sum with signs -/
def g_sgl (t : Nat → Option Int32) : Nat → Nat → Int32 → Int32
  | _, 0, v => v
  | i, j + 1, v => g_sgl t (i + 1) j (match t i with | none => v | some x => v + x)
def g_odd (s w : Nat) : Bool := (s / 2 ^ (w + 1) % 2 + s / 2 ^ (w + 1) / 2 % 2) % 2 == 1
def g_sg (A : Nat → Nat → Int32) (n : Nat) : Nat → Nat → Nat → Int32
  | 0, _, _ => 1
  | k + 1, d, s => g_sgl (fun w => if s.testBit w then none else some (if g_odd s w then -(A d w * g_sg A n k (d + 1) (s ||| 2 ^ w)) else A d w * g_sg A n k (d + 1) (s ||| 2 ^ w))) 0 n 0
theorem g_odd_tab : ∀ s, s < 8 → ∀ w, w < 3 → (n_pc 32 (s / 2 ^ (w + 1)) % 2 = if g_odd s w then 1 else 0) := by decide +kernel
def g_A (R C : Nat) (kd dc wc : Nat → Nat) (a b : Nat) : Int32 := nI (g_al R C kd (wc b) 10 (dc a))
theorem c_strikeOut (hw : b_wf R C n kd co nu dc wc) : ∀ (k d0 d s : Nat) (M : q_M) (K : Int32 → q_M → Prop), d0 + k = n → k + 5 ≤ d → s < 8 → b_now M R C n kd co nu dc wc → (∀ M', (∀ k, k ≠ 17 → M' k = M k) → K (g_sg (g_A R C kd dc wc) n k d0 s) M') → q_Ci X d 79 [.ref 0, .int (nI d0), .int (nI s)] M K := by
  have hn3 := hw.2.2.1
  intro k
  induction k with
  | zero =>
    intro d0 d s M K hk hd hs hb h
    refine vc79 ⟨fun g => ?_, fun _ => h M (fun _ _ => rfl)⟩
    rw [hb.2.2.2.2.1, q_lt (by omega) (by omega)] at g; omega
  | succ k ih =>
    intro d0 d s M K hk hd hs hb h
    refine vc79 ⟨fun _ => ?_, fun g => absurd (by rw [hb.2.2.2.2.1, q_lt (by omega) (by omega)]; omega) g⟩
    rw [hb.2.2.2.2.1]
    have loop : ∀ (j i : Nat) (v : Int32) (M1 : q_M), i + j = n → (∀ k, k ≠ 17 → M1 k = M k) → (∀ M', (∀ k, k ≠ 17 → M' k = M k) → K (g_sgl (fun w => if s.testBit w then none else some (if g_odd s w then -(g_A R C kd dc wc d0 w * g_sg (g_A R C kd dc wc) n k (d0 + 1) (s ||| 2 ^ w)) else g_A R C kd dc wc d0 w * g_sg (g_A R C kd dc wc) n k (d0 + 1) (s ||| 2 ^ w))) i j v) M') → q_Ex X d 79 24 [some (.ref 0), some (.int (nI d0)), some (.int (nI s)), some (.int (nI n)), some (.int v), some (.int (nI i)), none] [] M1 (q_ri K) := by
      intro j
      induction j with
      | zero =>
        intro i v M1 hi f1 hK
        exact vc79_p24 (by omega) ⟨fun _ => hK M1 f1, fun g => absurd ((q_le (by omega) (by omega)).mpr (by omega)) g⟩
      | succ j ihj =>
        intro i v M1 hi f1 hK
        have hb1 : b_now M1 R C n kd co nu dc wc := hb.eq (fun k a b => f1 k (by omega))
        rw [g_sgl] at hK
        refine vc79_p24 (by omega) ⟨fun g => absurd ((q_le (by omega) (by omega)).mp g) (by omega), fun _ => ?_⟩
        rw [n_bit0 (by omega) (by omega), nI_1, nI_1, pk_shrN (n := s) (by omega) (nI (i + 1) &&& 31) (i + 1) (n_sl (i + 1) (by omega)), n_sh i (by omega), n_or]
        refine ⟨fun g => ?_, fun g => ?_⟩
        · have ht : s.testBit i = true := by simpa using g
          rw [if_pos ht] at hK
          exact ihj (i + 1) v M1 (by omega) f1 hK
        · rw [if_neg (by rw [g]; decide)] at hK
          have hle : s / 2 ^ (i + 1) ≤ s := Nat.div_le_self _ _
          have hsi : s ||| 2 ^ i < 8 := Nat.or_lt_two_pow (n := 3) hs (Nat.pow_lt_pow_right (by decide) (by omega))
          have tab := g_odd_tab s hs i (by omega)
          have hpc : n_pc 32 (s / 2 ^ (i + 1)) < 2 ^ 32 := by
            have : ∀ a, a < 8 → n_pc 32 a < 2 ^ 32 := by decide +kernel
            exact this _ (by omega)
          refine c_bitCount (by omega) ?_
          rw [pk_andN hpc 1 rfl, tab]
          have e1 : ∀ x y : Int32, (-1) * x * y = -(x * y) := fun x y => by rw [Int32.neg_mul, Int32.one_mul, Int32.neg_mul]
          have e2 : ∀ x y : Int32, 1 * x * y = x * y := fun x y => by rw [Int32.one_mul]
          refine ⟨fun g2 => ?_, fun g2 => ?_⟩
          · have ho : g_odd s i = true := by
              cases ho : g_odd s i with
              | true => rfl
              | false => rw [ho] at g2; exact absurd rfl g2
            rw [if_pos ho] at hK
            refine c_waysAlone hw (by omega) hb1 (by omega) (by omega) (fun M6 f6 => ?_)
            refine ih (d0 + 1) (d - 1) (s ||| 2 ^ i) M6 _ (by omega) (by omega) hsi (hb1.eq (fun k a b => f6 k (by omega))) (fun M8 f8 => ?_)
            rw [e1]
            exact ihj (i + 1) _ M8 (by omega) (fun k hk => by rw [f8 k hk, f6 k hk]; exact f1 k hk) hK
          · have ho : g_odd s i = false := by
              cases ho : g_odd s i with
              | false => rfl
              | true => rw [ho] at g2; exact absurd g2 (by decide)
            rw [if_neg (by rw [ho]; decide)] at hK
            refine c_waysAlone hw (by omega) hb1 (by omega) (by omega) (fun M6 f6 => ?_)
            refine ih (d0 + 1) (d - 1) (s ||| 2 ^ i) M6 _ (by omega) (by omega) hsi (hb1.eq (fun k a b => f6 k (by omega))) (fun M8 f8 => ?_)
            rw [e2]
            exact ihj (i + 1) _ M8 (by omega) (fun k hk => by rw [f8 k hk, f6 k hk]; exact f1 k hk) hK
    exact loop n 0 0 M (by omega) (fun _ _ => rfl) h
theorem r_signedFrom (hw : r_wf R C n kd nu dc wc) : ∀ (k d0 d s : Nat) (M : q_M) (K : Int32 → q_M → Prop), d0 + k = n → k + 16 ≤ d → s < 8 → r_b M R C n kd co nu → K (g_sg (g_A R C kd dc wc) n k d0 s) M → q_Ci X d 127 [.ref 97, .int (nI d0), .int (nI s)] M K := by
  have hn3 := hw.2.2.1
  intro k
  induction k with
  | zero =>
    intro d0 d s M K hk hd hs hb h
    exact vc127 ⟨fun g => absurd (by rw [hb.2.2.1, show d0 = n by omega]) g, fun _ => h⟩
  | succ k ih =>
    intro d0 d s M K hk hd hs hb h
    refine vc127 ⟨fun _ => ?_, fun g => ?_⟩
    · have loop : ∀ (j i : Nat) (v : Int32), i + j = n → K (g_sgl (fun w => if s.testBit w then none else some (if g_odd s w then -(g_A R C kd dc wc d0 w * g_sg (g_A R C kd dc wc) n k (d0 + 1) (s ||| 2 ^ w)) else g_A R C kd dc wc d0 w * g_sg (g_A R C kd dc wc) n k (d0 + 1) (s ||| 2 ^ w))) i j v) M → q_Ex X d 127 17 [some (.ref 97), some (.int (nI d0)), some (.int (nI s)), some (.int v), some (.int (nI i)), none, none, none] [] M (q_ri K) := by
        intro j
        induction j with
        | zero =>
          intro i v hi hK
          refine vc127_p17 (by omega) ⟨fun _ => hK, fun g => absurd (by rw [hb.2.2.1, q_le (by omega) (by omega)]; omega) g⟩
        | succ j ihj =>
          intro i v hi hK
          rw [g_sgl] at hK
          refine vc127_p17 (by omega) ⟨fun g => ?_, fun _ => ?_⟩
          · rw [hb.2.2.1, q_le (by omega) (by omega)] at g; omega
          · have hle : s / 2 ^ (i + 1) ≤ s := Nat.div_le_self _ _
            have hsi : s ||| 2 ^ i < 8 := Nat.or_lt_two_pow (n := 3) hs (Nat.pow_lt_pow_right (by decide) (by omega))
            have a1 : nI (s / 2 ^ (i + 1)) &&& 1 = nI (s / 2 ^ (i + 1) % 2) := pk_andN (by omega) 1 rfl
            have a2 : (nI (s / 2 ^ (i + 1)) >>> ((1 : Int32) &&& 31)) &&& 1 = nI (s / 2 ^ (i + 1) / 2 % 2) := by
              rw [pk_shrN (n := s / 2 ^ (i + 1)) (by omega) ((1 : Int32) &&& 31) 1 (by decide), show 2 ^ 1 = 2 from rfl]
              exact pk_andN (by omega) 1 rfl
            have m1 := Nat.mod_lt (s / 2 ^ (i + 1)) (show 0 < 2 by decide)
            have m2 := Nat.mod_lt (s / 2 ^ (i + 1) / 2) (show 0 < 2 by decide)
            rw [n_bit1 (by omega) (by omega), nI_1, nI_1, pk_shrN (n := s) (by omega) (nI (i + 1) &&& 31) (i + 1) (n_sl (i + 1) (by omega)), n_sh i (by omega), n_or, a2, a1, nI_add, show ∀ x, x < 4 → nI x - nI x / 2 * 2 = nI (x % 2) from fun x hx => pk_rem (d := 2) (by omega) (by decide) (by decide)]
            · refine ⟨fun g => ?_, fun g => ?_⟩
              · rw [if_neg g] at hK
                refine r_aloneOf hw (by omega) hb (by omega) (by omega) ?_
                refine ih (d0 + 1) (d - 1) (s ||| 2 ^ i) M _ (by omega) (by omega) hsi hb ?_
                refine ⟨fun g2 => ?_, fun g2 => ?_⟩
                · have ho : g_odd s i = true := by
                    unfold g_odd
                    rw [beq_iff_eq]
                    have : ¬ (s / 2 ^ (i + 1) % 2 + s / 2 ^ (i + 1) / 2 % 2) % 2 = 0 := fun q => g2 (by rw [q]; rfl)
                    omega
                  rw [if_pos ho] at hK
                  exact ihj (i + 1) _ (by omega) hK
                · have ho : ¬ g_odd s i = true := by
                    unfold g_odd
                    rw [beq_iff_eq]
                    have := (q_eq (b := 0) (by omega) (by decide)).mp g2
                    omega
                  rw [if_neg ho] at hK
                  exact ihj (i + 1) _ (by omega) hK
              · rw [if_pos g] at hK
                exact ihj (i + 1) v (by omega) hK
            · omega
      exact loop n 0 0 (by omega) h
    · rw [hb.2.2.1, q_eq (by omega) (by omega)] at g; omega
end Alone
