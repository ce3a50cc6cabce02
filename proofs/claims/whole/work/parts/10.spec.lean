/-! the board, its ways and families, as lists of natural numbers -/
def g_nx (R C : Nat) (kd : Nat → Nat) (c st : Nat) : Option Nat :=
  if st = 0 then (if c + C < R * C ∧ kd (c + C) ≠ 1 then some (c + C) else none)
  else (if c % C + 1 < C ∧ kd (c + 1) ≠ 1 then some (c + 1) else none)
def g_o {α : Type} (o : Option Nat) (F : Nat → List α) : List α := match o with
  | none => []
  | some t => F t
/-- the ways from a cell on to a well, as lists of cells, d ahead of r, through no door or well -/
def g_pth (R C : Nat) (kd : Nat → Nat) : Nat → Nat → List (List Nat)
  | 0, c => if kd c = 3 then [[c]] else []
  | f + 1, c => if kd c = 3 then [[c]] else if kd c = 2 then [] else (g_o (g_nx R C kd c 0) (g_pth R C kd f) ++ g_o (g_nx R C kd c 1) (g_pth R C kd f)).map (c :: ·)
/-- the ways of a door in cell c -/
def g_wy (R C : Nat) (kd : Nat → Nat) (c : Nat) : List (List Nat) := (g_o (g_nx R C kd c 0) (g_pth R C kd 10) ++ g_o (g_nx R C kd c 1) (g_pth R C kd 10)).map (c :: ·)
/-- how many steps are left at most -/
def g_far (R C c : Nat) : Nat := (R - 1 - c / C) + (C - 1 - c % C)
theorem g_nx0 {R C : Nat} {kd : Nat → Nat} {c t : Nat} (h : g_nx R C kd c 0 = some t) : t = c + C ∧ t < R * C ∧ kd t ≠ 1 := by
  unfold g_nx at h
  rw [if_pos rfl] at h
  split at h
  next g => cases h; exact ⟨rfl, g.1, g.2⟩
  next => cases h
theorem g_nx1 {R C : Nat} {kd : Nat → Nat} {c t : Nat} (h : g_nx R C kd c 1 = some t) : t = c + 1 ∧ c % C + 1 < C ∧ kd t ≠ 1 := by
  unfold g_nx at h
  rw [if_neg (by decide)] at h
  split at h
  next g => cases h; exact ⟨rfl, g.1, g.2⟩
  next => cases h
theorem g_div_lt {R C c : Nat} (hC : 0 < C) (h : c < R * C) : c / C < R := (Nat.div_lt_iff_lt_mul hC).mpr h
theorem g_right {R C c : Nat} (hC : 0 < C) (h : c < R * C) (h2 : c % C + 1 < C) : c + 1 < R * C ∧ (c + 1) / C = c / C ∧ (c + 1) % C = c % C + 1 := by
  have hm := Nat.mod_add_div c C
  have e1 : (c + 1) % C = c % C + 1 := by
    rw [Nat.add_mod, Nat.mod_eq_of_lt (show 1 < C by omega), Nat.mod_eq_of_lt h2]
  have e2 : (c + 1) / C = c / C := by
    have := Nat.mod_add_div (c + 1) C
    rw [e1] at this
    have h3 : C * ((c + 1) / C) = C * (c / C) := by omega
    exact Nat.eq_of_mul_eq_mul_left hC h3
  refine ⟨?_, e2, e1⟩
  have h4 := g_div_lt hC h
  have h5 : C * (c / C) + C ≤ R * C := by
    have : (c / C + 1) * C ≤ R * C := Nat.mul_le_mul_right C h4
    rw [Nat.add_mul, Nat.one_mul, Nat.mul_comm (c / C) C] at this
    exact this
  omega
theorem g_down {R C c : Nat} (hC : 0 < C) (h : c + C < R * C) : (c + C) / C = c / C + 1 ∧ (c + C) % C = c % C ∧ c / C + 1 < R := by
  have e1 : (c + C) / C = c / C + 1 := Nat.add_div_right c hC
  refine ⟨e1, Nat.add_mod_right c C, ?_⟩
  rw [← e1]
  exact g_div_lt hC h
theorem g_nx_far {R C : Nat} {kd : Nat → Nat} {c t st : Nat} (hC : 0 < C) (hc : c < R * C) (h : g_nx R C kd c st = some t) : t < R * C ∧ g_far R C t + 1 = g_far R C c := by
  by_cases h0 : st = 0
  · subst h0
    obtain ⟨rfl, h1, h2⟩ := g_nx0 h
    obtain ⟨a, b, e⟩ := g_down hC h1
    refine ⟨h1, ?_⟩
    unfold g_far
    rw [a, b]
    omega
  · have h' : g_nx R C kd c 1 = some t := by
      unfold g_nx at h ⊢
      rw [if_neg h0] at h
      rw [if_neg (by decide)]
      exact h
    obtain ⟨rfl, h1, h2⟩ := g_nx1 h'
    obtain ⟨a, b, e⟩ := g_right hC hc h1
    refine ⟨a, ?_⟩
    unfold g_far
    rw [b, e]
    omega
theorem g_far_le {R C c : Nat} (hR : R ≤ 6) (hC : C ≤ 5) : g_far R C c ≤ 9 := by
  unfold g_far
  generalize c / C = x
  generalize c % C = y
  omega
/-- with enough steps the number of them doesn't matter -/
theorem g_pth_fuel {R C : Nat} {kd : Nat → Nat} (hC : 0 < C) : ∀ (f g c : Nat), c < R * C → g_far R C c ≤ f → g_far R C c ≤ g → g_pth R C kd f c = g_pth R C kd g c := by
  have key : ∀ (f c : Nat), c < R * C → g_far R C c ≤ f → g_pth R C kd f c = g_pth R C kd (f + 1) c := by
    intro f
    induction f with
    | zero =>
      intro c hc h
      have no : ∀ st, g_nx R C kd c st = none := fun st => by
        cases hn : g_nx R C kd c st with
        | none => rfl
        | some t => have := (g_nx_far hC hc hn).2; omega
      simp [g_pth, no, g_o]
    | succ f ih =>
      intro c hc h
      have e : ∀ st, g_o (g_nx R C kd c st) (g_pth R C kd f) = g_o (g_nx R C kd c st) (g_pth R C kd (f + 1)) := fun st => by
        cases hn : g_nx R C kd c st with
        | none => rfl
        | some t =>
          obtain ⟨h1, h2⟩ := g_nx_far hC hc hn
          exact ih t h1 (by omega)
      rw [g_pth, g_pth, e 0, e 1]
  have up : ∀ (k f c : Nat), c < R * C → g_far R C c ≤ f → g_pth R C kd f c = g_pth R C kd (f + k) c := by
    intro k
    induction k with
    | zero => intro f c _ _; rfl
    | succ k ih => intro f c hc h; rw [ih f c hc h, key (f + k) c hc (by omega)]; rfl
  intro f g c hc hf hg
  rcases Nat.le_total f g with h | h
  · rw [up (g - f) f c hc hf, show f + (g - f) = g by omega]
  · rw [up (f - g) g c hc hg, show g + (f - g) = f by omega]
/-- bits of cells -/
def g_bits : List Nat → Nat
  | [] => 0
  | c :: r => 2 ^ c ||| g_bits r
theorem g_bits_tb (p : List Nat) (c : Nat) : (g_bits p).testBit c = true ↔ c ∈ p := by
  induction p with
  | nil => simp [g_bits]
  | cons a r ih =>
    rw [g_bits, Nat.testBit_or, Bool.or_eq_true, ih, List.mem_cons, Nat.testBit_two_pow, decide_eq_true_eq]
    constructor
    · rintro (h | h)
      · exact Or.inl h.symm
      · exact Or.inr h
    · rintro (h | h)
      · exact Or.inl h.symm
      · exact Or.inr h
theorem g_bits_app (p q : List Nat) : g_bits (p ++ q) = g_bits p ||| g_bits q := by
  induction p with
  | nil => simp [g_bits]
  | cons a r ih => simp [g_bits, ih, Nat.or_assoc]
theorem g_bits_lt {p : List Nat} {N : Nat} (h : ∀ c ∈ p, c < N) : g_bits p < 2 ^ N := by
  induction p with
  | nil => exact Nat.two_pow_pos N
  | cons a r ih =>
    exact Nat.or_lt_two_pow (Nat.pow_lt_pow_right (by decide) (h a List.mem_cons_self)) (ih fun c hc => h c (List.mem_cons_of_mem _ hc))
/-- ways lie on the board -/
theorem g_pth_in {R C : Nat} {kd : Nat → Nat} (hC : 0 < C) : ∀ (f c : Nat), c < R * C → ∀ p ∈ g_pth R C kd f c, p ≠ [] ∧ p.head? = some c ∧ ∀ x ∈ p, x < R * C := by
  intro f
  induction f with
  | zero =>
    intro c hc p hp
    unfold g_pth at hp
    split at hp
    · simp at hp; subst hp; simp [hc]
    · simp at hp
  | succ f ih =>
    intro c hc p hp
    unfold g_pth at hp
    split at hp
    · simp at hp; subst hp; simp [hc]
    · split at hp
      · simp at hp
      · obtain ⟨q, hq, rfl⟩ := List.mem_map.mp hp
        refine ⟨by simp, by simp, fun x hx => ?_⟩
        rcases List.mem_cons.mp hx with rfl | hx
        · exact hc
        · have go : ∀ st, q ∈ g_o (g_nx R C kd c st) (g_pth R C kd f) → x < R * C := by
            intro st h
            cases hn : g_nx R C kd c st with
            | none => rw [hn] at h; simp [g_o] at h
            | some t =>
              rw [hn] at h
              exact (ih t (g_nx_far hC hc hn).1 q h).2.2 x hx
          rcases List.mem_append.mp hq with h | h
          · exact go 0 h
          · exact go 1 h
/-- not more than corner to corner -/
def g_ub : Nat → Nat → Nat → Nat
  | 0, _, _ => 1
  | f + 1, a, b => if a = 0 ∨ b = 0 then 1 else g_ub f (a - 1) b + g_ub f a (b - 1)
theorem g_ub_pos : ∀ (f a b : Nat), 1 ≤ g_ub f a b := by
  intro f
  induction f with
  | zero => intro a b; exact Nat.le_refl 1
  | succ f ih =>
    intro a b
    unfold g_ub
    split
    · exact Nat.le_refl 1
    · have := ih (a - 1) b; omega
theorem g_ub_0 (f a b : Nat) (h : a = 0 ∨ b = 0) : g_ub f a b = 1 := by
  cases f with
  | zero => rfl
  | succ f => unfold g_ub; rw [if_pos h]
theorem g_both {R C : Nat} {kd : Nat → Nat} (hC : 0 < C) {f c : Nat} (hc : c < R * C) (F : Nat → List (List Nat)) (hF : ∀ t, t < R * C → (F t).length ≤ g_ub f (R - 1 - t / C) (C - 1 - t % C)) :
    (g_o (g_nx R C kd c 0) F ++ g_o (g_nx R C kd c 1) F).length ≤ g_ub (f + 1) (R - 1 - c / C) (C - 1 - c % C) := by
  have h0 : (g_o (g_nx R C kd c 0) F).length ≤ if R - 1 - c / C = 0 then 0 else g_ub f (R - 1 - c / C - 1) (C - 1 - c % C) := by
    cases hn : g_nx R C kd c 0 with
    | none => simp [g_o]
    | some t =>
      obtain ⟨rfl, h1, h2⟩ := g_nx0 hn
      obtain ⟨a, b, e⟩ := g_down hC h1
      have := hF _ h1
      rw [a, b] at this
      rw [if_neg (by omega)]
      rw [show R - 1 - c / C - 1 = R - 1 - (c / C + 1) by omega]
      exact this
  have h1 : (g_o (g_nx R C kd c 1) F).length ≤ if C - 1 - c % C = 0 then 0 else g_ub f (R - 1 - c / C) (C - 1 - c % C - 1) := by
    cases hn : g_nx R C kd c 1 with
    | none => simp [g_o]
    | some t =>
      obtain ⟨rfl, h1, h2⟩ := g_nx1 hn
      obtain ⟨a, b, e⟩ := g_right hC hc h1
      have := hF _ a
      rw [b, e] at this
      rw [if_neg (by omega)]
      rw [show C - 1 - c % C - 1 = C - 1 - (c % C + 1) by omega]
      exact this
  rw [List.length_append]
  generalize R - 1 - c / C = a at h0 h1 ⊢
  generalize C - 1 - c % C = b at h0 h1 ⊢
  unfold g_ub
  by_cases ha : a = 0
  · rw [if_pos ha] at h0
    rw [if_pos (Or.inl ha)]
    split at h1
    · omega
    · rw [g_ub_0 f a _ (Or.inl ha)] at h1; omega
  · rw [if_neg ha] at h0
    by_cases hb : b = 0
    · rw [if_pos hb] at h1
      rw [if_pos (Or.inr hb)]
      rw [g_ub_0 f _ b (Or.inr hb)] at h0; omega
    · rw [if_neg hb] at h1
      rw [if_neg (by omega)]
      omega
theorem g_pth_len {R C : Nat} {kd : Nat → Nat} (hC : 0 < C) : ∀ (f c : Nat), c < R * C → (g_pth R C kd f c).length ≤ g_ub f (R - 1 - c / C) (C - 1 - c % C) := by
  intro f
  induction f with
  | zero =>
    intro c hc
    unfold g_pth g_ub
    split <;> simp
  | succ f ih =>
    intro c hc
    unfold g_pth
    split
    · exact g_ub_pos _ _ _
    · split
      · simp
      · rw [List.length_map]
        exact g_both hC hc _ ih
theorem g_wy_len {R C : Nat} {kd : Nat → Nat} (hC : 0 < C) (hR : R ≤ 6) (hC5 : C ≤ 5) {c : Nat} (hc : c < R * C) : (g_wy R C kd c).length ≤ 126 := by
  unfold g_wy
  rw [List.length_map]
  refine Nat.le_trans (g_both hC hc (f := 10) _ (fun t ht => g_pth_len hC 10 t ht)) ?_
  have h1 : R - 1 - c / C < 6 := by generalize c / C = x; omega
  have h2 : C - 1 - c % C < 5 := by generalize c % C = x; omega
  generalize R - 1 - c / C = a at h1 ⊢
  generalize C - 1 - c % C = b at h2 ⊢
  exact (show ∀ a, a < 6 → ∀ b, b < 5 → g_ub 11 a b ≤ 126 by decide +kernel) a h1 b h2
/-- families: a way for each door from d on, apart from each other and from a set of cells -/
def g_fam {α : Type} (b : α → Nat) (ok : Nat → α → Bool) (Ws : Nat → List α) : Nat → Nat → Nat → List (List α)
  | 0, _, _ => [[]]
  | k + 1, d, s => (Ws d).flatMap (fun p => if ok d p && (b p &&& s == 0) then (g_fam b ok Ws k (d + 1) (s ||| b p)).map (p :: ·) else [])
def g_all {α : Type} (ok : Nat → α → Bool) : Nat → List α → Bool
  | _, [] => true
  | d, p :: r => ok d p && g_all ok (d + 1) r
theorem g_fam_ok {α : Type} (b : α → Nat) (ok ok2 : Nat → α → Bool) (Ws : Nat → List α) : ∀ (k d s : Nat), g_fam b (fun d p => ok d p && ok2 d p) Ws k d s = (g_fam b ok Ws k d s).filter (g_all ok2 d) := by
  intro k
  induction k with
  | zero => intro d s; rfl
  | succ k ih =>
    intro d s
    unfold g_fam
    rw [List.filter_flatMap]
    congr 1
    funext p
    by_cases h1 : ok d p = true
    · by_cases h2 : (b p &&& s == 0) = true
      · by_cases h3 : ok2 d p = true
        · simp only [h1, h2, h3, Bool.and_true, if_true]
          rw [ih, List.filter_map]
          congr 1
          apply List.filter_congr
          intro x _
          simp [g_all, h3]
        · have h3' : ok2 d p = false := by simpa using h3
          simp only [h1, h2, h3', Bool.and_true, Bool.and_false, Bool.false_and, if_true]
          simp [g_all, h3', List.filter_map]
      · have h2' : (b p &&& s == 0) = false := by simpa using h2
        simp [h2']
    · have h1' : ok d p = false := by simpa using h1
      simp [h1']
theorem g_fam_filter {α : Type} (b : α → Nat) (ok : Nat → α → Bool) (q : α → Bool) (Ws : Nat → List α) : ∀ (k d s : Nat), g_fam b ok (fun d => (Ws d).filter q) k d s = (g_fam b ok Ws k d s).filter (fun f => f.all q) := by
  intro k
  induction k with
  | zero => intro d s; rfl
  | succ k ih =>
    intro d s
    unfold g_fam
    rw [List.filter_flatMap]
    induction (Ws d) with
    | nil => rfl
    | cons p r ih2 =>
      by_cases h3 : q p = true
      · rw [List.filter_cons_of_pos h3, List.flatMap_cons, List.flatMap_cons, ih2]
        congr 1
        split
        · rw [ih, List.filter_map]
          congr 1
          apply List.filter_congr
          intro x _
          simp [h3]
        · rfl
      · rw [List.filter_cons_of_neg h3, List.flatMap_cons, ih2]
        have h3' : q p = false := by simpa using h3
        split
        · simp [List.filter_map, h3']
        · simp
