/-! families by a law are those whose orders the law takes -/
def f_apart : Nat → List (List Nat) → Prop
  | _, [] => True
  | s, p :: r => g_bits p &&& s = 0 ∧ f_apart (s ||| g_bits p) r
theorem g_fam_mem (ok : Nat → List Nat → Bool) (Ws : Nat → List (List Nat)) : ∀ (k d s : Nat) (f : List (List Nat)), f ∈ g_fam g_bits ok Ws k d s → f_apart s f ∧ ∀ (i : Nat) (p : List Nat), f[i]? = some p → p ∈ Ws (d + i) ∧ ok (d + i) p = true := by
  intro k
  induction k with
  | zero => intro d s f h; simp [g_fam] at h; subst h; exact ⟨trivial, fun i p hp => by simp at hp⟩
  | succ k ih =>
    intro d s f h
    unfold g_fam at h
    obtain ⟨p, hp, h2⟩ := List.mem_flatMap.mp h
    by_cases hc : (ok d p && (g_bits p &&& s == 0)) = true
    · rw [if_pos hc] at h2
      obtain ⟨g, hg, rfl⟩ := List.mem_map.mp h2
      obtain ⟨i1, i2⟩ := ih _ _ _ hg
      simp only [Bool.and_eq_true, beq_iff_eq] at hc
      refine ⟨⟨hc.2, i1⟩, fun i q hq => ?_⟩
      cases i with
      | zero => simp at hq; subst hq; exact ⟨hp, hc.1⟩
      | succ i =>
        have := i2 i q (by simpa using hq)
        rw [show d + 1 + i = d + (i + 1) by omega] at this
        exact this
    · rw [if_neg hc] at h2
      simp at h2
theorem f_apart_bits {s : Nat} {f : List (List Nat)} (h : f_apart s f) : ∀ (i : Nat) (p : List Nat), f[i]? = some p → g_bits p &&& s = 0 := by
  induction f generalizing s with
  | nil => intro i p hp; simp at hp
  | cons a r ih =>
    intro i p hp
    obtain ⟨h1, h2⟩ := h
    cases i with
    | zero => simp at hp; subst hp; exact h1
    | succ i =>
      have h3 := ih h2 i p (by simpa using hp)
      rw [Nat.and_or_distrib_left] at h3
      exact (Nat.or_eq_zero_iff.mp h3).1
theorem f_apart_two {s : Nat} {f : List (List Nat)} (h : f_apart s f) : ∀ (i j : Nat) (p q : List Nat), i < j → f[i]? = some p → f[j]? = some q → g_bits q &&& g_bits p = 0 := by
  induction f generalizing s with
  | nil => intro i j p q _ hp; simp at hp
  | cons a r ih =>
    intro i j p q hij hp hq
    obtain ⟨h1, h2⟩ := h
    obtain ⟨j', rfl⟩ : ∃ j', j = j' + 1 := ⟨j - 1, by omega⟩
    cases i with
    | zero =>
      simp at hp
      subst hp
      have h3 := f_apart_bits h2 j' q (by simpa using hq)
      rw [Nat.and_or_distrib_left] at h3
      exact (Nat.or_eq_zero_iff.mp h3).2
    | succ i => exact ih h2 i j' p q (by omega) (by simpa using hp) (by simpa using hq)
/-- two ways in wells of one number meet -/
theorem g_meet {N n : Nat} {nu wc : Nat → Nat} {p q : List Nat} (hp : g_wyOk N n nu wc p) (hq : g_wyOk N n nu wc q) (h : nu (p.getLastD 0) = nu (q.getLastD 0)) : ¬ g_bits q &&& g_bits p = 0 := by
  intro e
  have h1 : (g_bits p).testBit (p.getLastD 0) = true := (g_bits_tb _ _).mpr hp.2.1
  have h2 : (g_bits q).testBit (p.getLastD 0) = true := by rw [hp.2.2.2, h, ← hq.2.2.2]; exact (g_bits_tb _ _).mpr hq.2.1
  have h3 : (g_bits q &&& g_bits p).testBit (p.getLastD 0) = true := by rw [Nat.testBit_and, h1, h2]; rfl
  rw [e] at h3
  simp at h3
theorem f_dig {nu : Nat → Nat} {f : List (List Nat)} (hl : f.length ≤ 3) (hn : ∀ (i : Nat) (p : List Nat), f[i]? = some p → nu (p.getLastD 0) < 3) : ∀ (e : Nat) (p : List Nat), f[e]? = some p → f_ord nu 0 f / 10 ^ e % 10 = nu (p.getLastD 0) := by
  intro e p hp
  match f, hl, hn, hp with
  | [], _, _, hp => simp at hp
  | [a], _, hn, hp =>
    have h0 := hn 0 a rfl
    have he : e = 0 := by
      have := (List.getElem?_eq_some_iff.mp hp).1
      simp at this; omega
    subst he
    cases hp
    simp only [f_ord]
    omega
  | [a, b], _, hn, hp =>
    have h0 := hn 0 a rfl
    have h1 := hn 1 b rfl
    have he : e < 2 := by
      have := (List.getElem?_eq_some_iff.mp hp).1
      simpa using this
    simp only [f_ord]
    rcases (show e = 0 ∨ e = 1 by omega) with rfl | rfl
    · cases hp; omega
    · cases hp; omega
  | [a, b, c], _, hn, hp =>
    have h0 := hn 0 a rfl
    have h1 := hn 1 b rfl
    have h2 := hn 2 c rfl
    have he : e < 3 := by
      have := (List.getElem?_eq_some_iff.mp hp).1
      simpa using this
    simp only [f_ord]
    rcases (show e = 0 ∨ e = 1 ∨ e = 2 by omega) with rfl | rfl | rfl
    · cases hp; omega
    · cases hp; omega
    · cases hp; omega
  | a :: b :: c :: d :: r, hl, _, _ => simp at hl
theorem o_perm2 : ∀ x, x < 2 → ∀ y, y < 2 → x ≠ y → ∃ p, p < 9 ∧ o_st 2 ≤ p ∧ p < o_en 2 ∧ x + 10 * y = o_at p := by decide +kernel
theorem o_perm3' : ∀ x, x < 3 → ∀ y, y < 3 → ∀ z, z < 3 → (x = y ∨ x = z ∨ y = z ∨ ((List.range 9).any fun p => decide (o_st 3 ≤ p) && decide (p < o_en 3) && (x + 10 * y + 100 * z == o_at p)) = true) := by decide +kernel
theorem o_perm3 (x : Nat) (hx : x < 3) (y : Nat) (hy : y < 3) (z : Nat) (hz : z < 3) (h : x ≠ y ∧ x ≠ z ∧ y ≠ z) : ∃ p, p < 9 ∧ o_st 3 ≤ p ∧ p < o_en 3 ∧ x + 10 * y + 100 * z = o_at p := by
  rcases o_perm3' x hx y hy z hz with e | e | e | e
  · exact absurd e h.1
  · exact absurd e h.2.1
  · exact absurd e h.2.2
  · obtain ⟨p, h1, h2⟩ := List.any_eq_true.mp e
    simp only [Bool.and_eq_true, decide_eq_true_eq, beq_iff_eq] at h2
    exact ⟨p, List.mem_range.mp h1, h2.1.1, h2.1.2, h2.2⟩
theorem f_place {n N : Nat} {nu wc : Nat → Nat} {f : List (List Nat)} (hn : 0 < n) (hn3 : n ≤ 3) (hl : f.length = n) (ha : f_apart 0 f) (hok : ∀ (i : Nat) (p : List Nat), f[i]? = some p → g_wyOk N n nu wc p) : ∃ p, o_st n ≤ p ∧ p < o_en n ∧ f_ord nu 0 f = o_at p := by
  have ne : ∀ (i j : Nat) (p q : List Nat), i < j → f[i]? = some p → f[j]? = some q → nu (p.getLastD 0) ≠ nu (q.getLastD 0) := fun i j p q hij hp hq e => g_meet (hok i p hp) (hok j q hq) e (f_apart_two ha i j p q hij hp hq)
  match f, hl, ha, hok, ne with
  | [], hl, _, _, _ => simp at hl; omega
  | [a], hl, _, hok, _ =>
    simp at hl
    have h0 := (hok 0 a rfl).2.2.1
    subst hl
    refine ⟨0, by decide, by decide, ?_⟩
    simp only [f_ord]
    show _ = 0
    omega
  | [a, b], hl, _, hok, ne =>
    simp at hl
    subst hl
    have h0 := (hok 0 a rfl).2.2.1
    have h1 := (hok 1 b rfl).2.2.1
    obtain ⟨p, -, p1, p2, p3⟩ := o_perm2 _ h0 _ h1 (ne 0 1 a b (by decide) rfl rfl)
    refine ⟨p, p1, p2, ?_⟩
    rw [← p3]
    simp only [f_ord]
    omega
  | [a, b, c], hl, _, hok, ne =>
    simp at hl
    subst hl
    have h0 := (hok 0 a rfl).2.2.1
    have h1 := (hok 1 b rfl).2.2.1
    have h2 := (hok 2 c rfl).2.2.1
    obtain ⟨p, -, p1, p2, p3⟩ := o_perm3 _ h0 _ h1 _ h2 ⟨ne 0 1 a b (by decide) rfl rfl, ne 0 2 a c (by decide) rfl rfl, ne 1 2 b c (by decide) rfl rfl⟩
    refine ⟨p, p1, p2, ?_⟩
    rw [← p3]
    simp only [f_ord]
    omega
  | a :: b :: c :: d :: r, hl, _, _, _ => simp at hl; omega
theorem g_all_iff {α : Type} (ok : Nat → α → Bool) (f : List α) : ∀ d, g_all ok d f = true ↔ ∀ (i : Nat) (p : α), f[i]? = some p → ok (d + i) p = true := by
  induction f with
  | nil => intro d; simp [g_all]
  | cons a r ih =>
    intro d
    rw [g_all, Bool.and_eq_true, ih (d + 1)]
    constructor
    · rintro ⟨h1, h2⟩ i p hp
      cases i with
      | zero => simp at hp; subst hp; exact h1
      | succ i =>
        have := h2 i p (by simpa using hp)
        rw [show d + 1 + i = d + (i + 1) by omega] at this
        exact this
    · intro h
      refine ⟨h 0 a rfl, fun i p hp => ?_⟩
      have := h (i + 1) p (by simpa using hp)
      rw [show d + (i + 1) = d + 1 + i by omega] at this
      exact this
theorem l_mask_tb {w o n e v : Nat} (hv : v < n) : (l_mask w o n e).testBit v = (match l_wn w o n e with | none => true | some x => v == x) := by
  unfold l_mask
  cases h : l_wn w o n e with
  | none => simp [Nat.testBit_two_pow_sub_one, hv]
  | some x =>
    simp only [Nat.testBit_two_pow]
    by_cases e : x = v
    · subst e; simp
    · simp [e, Ne.symm e]
theorem l_tk_all {w o n : Nat} {nu : Nat → Nat} {f : List (List Nat)} (hn3 : n ≤ 3) (hl : f.length = n) (hnu : ∀ (i : Nat) (p : List Nat), f[i]? = some p → nu (p.getLastD 0) < n) : l_tk w o n (f_ord nu 0 f) = g_all (g_okW (l_wnB w o n) nu) 0 f := by
  have hd := f_dig (nu := nu) (f := f) (by omega) (fun i p hp => by have := hnu i p hp; omega)
  rw [Bool.eq_iff_iff, g_all_iff]
  unfold l_tk
  rw [List.all_eq_true]
  have key : ∀ (e : Nat) (p : List Nat), f[e]? = some p → (l_mask w o n e).testBit (f_ord nu 0 f / 10 ^ e % 10) = g_okW (l_wnB w o n) nu (0 + e) p := by
    intro e p hp
    have he : e < n := by rw [← hl]; exact (List.getElem?_eq_some_iff.mp hp).1
    rw [hd e p hp, l_mask_tb (hnu e p hp), Nat.zero_add]
    unfold g_okW l_wnB
    rw [if_pos he]
    cases l_wn w o n e <;> rfl
  constructor
  · intro h i p hp
    have hi : i < n := by rw [← hl]; exact (List.getElem?_eq_some_iff.mp hp).1
    rw [← key i p hp]
    exact h i (List.mem_range.mpr hi)
  · intro h e he
    have he2 := List.mem_range.mp he
    obtain ⟨p, hp⟩ : ∃ p, f[e]? = some p := ⟨f[e]'(by omega), List.getElem?_eq_getElem (by omega)⟩
    rw [key e p hp]
    exact h e p hp
/-- a mask of the places whose orders a law takes -/
def l_mk (w o n mk : Nat) : Prop := mk < 512 ∧ ∀ p, mk.testBit p = (decide (o_st n ≤ p) && decide (p < o_en n) && l_tk w o n (o_at p))
/-- families by a law -/
abbrev g_law (W : Nat → List (List Nat)) (nu : Nat → Nat) (w o n : Nat) : List (List (List Nat)) := g_fam g_bits (g_okW (l_wnB w o n) nu) W n 0 0
theorem g_law_eq (W : Nat → List (List Nat)) (nu : Nat → Nat) (w o n : Nat) : g_law W nu w o n = (g_any W n 0 0).filter (g_all (g_okW (l_wnB w o n) nu) 0) := by
  unfold g_law g_any
  rw [← g_fam_ok]
  simp only [Bool.true_and]
theorem p_in_law {w o n N mk : Nat} {nu wc : Nat → Nat} {W : Nat → List (List Nat)} (hn : 0 < n) (hn3 : n ≤ 3) (hWp : ∀ dr, dr < n → ∀ p ∈ W dr, g_wyOk N n nu wc p) (hmk : l_mk w o n mk) {f : List (List Nat)} (hf : f ∈ g_any W n 0 0) : p_in n nu mk 9 f = g_all (g_okW (l_wnB w o n) nu) 0 f := by
  have hl := g_fam_len _ _ _ _ _ _ _ hf
  obtain ⟨ha, hm⟩ := g_fam_mem _ _ _ _ _ _ hf
  have hok : ∀ (i : Nat) (p : List Nat), f[i]? = some p → g_wyOk N n nu wc p := fun i p hp => by
    have hi : i < n := by rw [← hl]; exact (List.getElem?_eq_some_iff.mp hp).1
    exact hWp (0 + i) (by omega) p (hm i p hp).1
  obtain ⟨p, p1, p2, p3⟩ := f_place hn hn3 hl ha hok
  have h9 := o_en9 hn3
  rw [← l_tk_all hn3 hl (fun i q hq => (hok i q hq).2.2.1), p3]
  have hpl : f_pl n nu p f = true := by unfold f_pl; simp [p1, p2, p3]
  unfold p_in
  rw [Bool.eq_iff_iff, List.any_eq_true]
  constructor
  · rintro ⟨q, hq, h⟩
    simp only [Bool.and_eq_true] at h
    have e := f_pl_one hn3 h.2 hpl
    subst e
    have h1 := h.1
    rw [hmk.2 q] at h1
    simp only [Bool.and_eq_true] at h1
    exact h1.2
  · intro h
    refine ⟨p, List.mem_range.mpr (by omega), ?_⟩
    rw [hmk.2 p, hpl, h]
    simp [p1, p2]
theorem law_cnt {w o n N mk : Nat} {nu wc : Nat → Nat} {W : Nat → List (List Nat)} (hn : 0 < n) (hn3 : n ≤ 3) (hWp : ∀ dr, dr < n → ∀ p ∈ W dr, g_wyOk N n nu wc p) (hmk : l_mk w o n mk) (r : List (List Nat) → Bool) : p_sum mk (fun p => ((t_F n nu p (g_sel W n 0 0)).filter r).length) 9 = ((g_law W nu w o n).filter r).length := by
  simp only [t_F_eq hn]
  rw [p_sum_cnt hn3, g_law_eq, List.filter_filter]
  congr 1
  apply List.filter_congr
  intro f hf
  rw [p_in_law hn hn3 hWp hmk hf]
/-- the least of numbers with a property -/
def z_isMin (a : Option Nat) (P : Nat → Prop) : Prop := match a with
  | none => ∀ x, ¬ P x
  | some m => P m ∧ ∀ x, P x → m ≤ x
theorem z_isMin_eq {a b : Option Nat} {P Q : Nat → Prop} (ha : z_isMin a P) (hb : z_isMin b Q) (h : ∀ x, P x ↔ Q x) : a = b := by
  cases a with
  | none =>
    cases b with
    | none => rfl
    | some y => exact absurd ((h y).mpr hb.1) (ha y)
  | some x =>
    cases b with
    | none => exact absurd ((h x).mp ha.1) (hb x)
    | some y =>
      have h1 := ha.2 y ((h y).mpr hb.1)
      have h2 := hb.2 x ((h x).mp ha.1)
      rw [show x = y by omega]
theorem z_isMin_mn {a : Option Nat} {P : Nat → Prop} (ha : z_isMin a P) (x : Nat) : z_isMin (z_mn a x) (fun y => P y ∨ y = x) := by
  cases a with
  | none => exact ⟨Or.inr rfl, fun y hy => hy.elim (fun h => absurd h (ha y)) (fun h => by omega)⟩
  | some m =>
    unfold z_mn
    dsimp only
    by_cases e : x < m
    · rw [if_pos e]
      exact ⟨Or.inr rfl, fun y hy => hy.elim (fun h => by have := ha.2 y h; omega) (fun h => by omega)⟩
    · rw [if_neg e]
      exact ⟨Or.inl ha.1, fun y hy => hy.elim (fun h => ha.2 y h) (fun h => by omega)⟩
theorem z_isMin_iff {a : Option Nat} {P Q : Nat → Prop} (ha : z_isMin a P) (h : ∀ x, P x ↔ Q x) : z_isMin a Q := by
  cases a with
  | none => exact fun x hx => ha x ((h x).mpr hx)
  | some m => exact ⟨(h m).mp ha.1, fun x hx => ha.2 x ((h x).mpr hx)⟩
theorem z_least_isMin (co : Nat → Nat) (N : Nat) (F : List (List (List Nat))) : z_isMin (z_least co N F) (fun x => ∃ f ∈ F, f_cost co (f_bits f) N = x) := by
  have key : ∀ (G F0 : List (List (List Nat))) (a : Option Nat), z_isMin a (fun x => ∃ f ∈ F0, f_cost co (f_bits f) N = x) → z_isMin (G.foldl (fun a f => z_mn a (f_cost co (f_bits f) N)) a) (fun x => ∃ f ∈ F0 ++ G, f_cost co (f_bits f) N = x) := by
    intro G
    induction G with
    | nil => intro F0 a h; simpa using h
    | cons g r ih =>
      intro F0 a h
      have h1 := z_isMin_mn h (f_cost co (f_bits g) N)
      have h2 := ih (F0 ++ [g]) _ (z_isMin_iff h1 (fun x => by
        constructor
        · rintro (⟨f, hf, e⟩ | e)
          · exact ⟨f, List.mem_append_left _ hf, e⟩
          · exact ⟨g, by simp, e.symm⟩
        · rintro ⟨f, hf, e⟩
          rcases List.mem_append.mp hf with h | h
          · exact Or.inl ⟨f, h, e⟩
          · simp at h; subst h; exact Or.inr e.symm))
      simpa using h2
  have := key F [] none (fun x hx => by obtain ⟨f, hf, -⟩ := hx; simp at hf)
  unfold z_least
  simpa using this
theorem p_mn_isMin {n : Nat} (nu co : Nat → Nat) (N m : Nat) (F : List (List (List Nat))) : ∀ i, z_isMin (p_mn m (fun p => z_least co N (F.filter (f_pl n nu p))) i) (fun x => ∃ f ∈ F, p_in n nu m i f = true ∧ f_cost co (f_bits f) N = x) := by
  intro i
  induction i with
  | zero => exact fun x hx => by obtain ⟨f, -, h, -⟩ := hx; simp [p_in] at h
  | succ i ih =>
    have hpin : ∀ f, p_in n nu m (i + 1) f = (p_in n nu m i f || (m.testBit i && f_pl n nu i f)) := fun f => by
      unfold p_in
      rw [List.range_succ, List.any_append]
      simp
    unfold p_mn
    cases hm : m.testBit i with
    | false =>
      rw [if_neg (by decide)]
      exact z_isMin_iff ih (fun x => by simp only [hpin, hm, Bool.false_and, Bool.or_false])
    | true =>
      rw [if_pos rfl]
      have hmin := z_least_isMin co N (F.filter (f_pl n nu i))
      cases hz : z_least co N (F.filter (f_pl n nu i)) with
      | none =>
        rw [hz] at hmin
        dsimp only
        refine z_isMin_iff ih (fun x => ?_)
        constructor
        · rintro ⟨f, hf, h1, h2⟩
          exact ⟨f, hf, by rw [hpin, h1]; rfl, h2⟩
        · rintro ⟨f, hf, h1, h2⟩
          rw [hpin, Bool.or_eq_true] at h1
          rcases h1 with h1 | h1
          · exact ⟨f, hf, h1, h2⟩
          · simp only [Bool.and_eq_true] at h1
            exact absurd ⟨f, List.mem_filter.mpr ⟨hf, h1.2⟩, h2⟩ (hmin x)
      | some y =>
        rw [hz] at hmin
        dsimp only
        have h3 := z_isMin_mn ih y
        obtain ⟨⟨f0, hf0, e0⟩, hle⟩ := hmin
        obtain ⟨hf1, hf2⟩ := List.mem_filter.mp hf0
        cases hc : z_mn (p_mn m (fun p => z_least co N (F.filter (f_pl n nu p))) i) y with
        | none =>
          rw [hc] at h3
          exact absurd (Or.inr rfl) (h3 y)
        | some v =>
          rw [hc] at h3
          refine ⟨?_, fun x hx => ?_⟩
          · rcases h3.1 with ⟨f, hf, h1, h2⟩ | h1
            · exact ⟨f, hf, by rw [hpin, h1]; rfl, h2⟩
            · exact ⟨f0, hf1, by rw [hpin, hm, hf2]; simp, by rw [e0]; exact h1.symm⟩
          · obtain ⟨f, hf, h1, h2⟩ := hx
            rw [hpin, Bool.or_eq_true] at h1
            rcases h1 with h1 | h1
            · exact h3.2 x (Or.inl ⟨f, hf, h1, h2⟩)
            · simp only [Bool.and_eq_true] at h1
              have a1 := hle x ⟨f, List.mem_filter.mpr ⟨hf, h1.2⟩, h2⟩
              have a2 := h3.2 y (Or.inr rfl)
              omega
theorem law_least {w o n N N2 mk : Nat} {nu wc co : Nat → Nat} {W : Nat → List (List Nat)} (hn : 0 < n) (hn3 : n ≤ 3) (hWp : ∀ dr, dr < n → ∀ p ∈ W dr, g_wyOk N n nu wc p) (hmk : l_mk w o n mk) : p_mn mk (fun p => z_least co N2 (t_F n nu p (g_sel W n 0 0))) 9 = z_least co N2 (g_law W nu w o n) := by
  simp only [t_F_eq hn]
  refine z_isMin_eq (p_mn_isMin nu co N2 mk (g_any W n 0 0) 9) (z_least_isMin co N2 _) (fun x => ?_)
  rw [g_law_eq]
  constructor
  · rintro ⟨f, hf, h1, h2⟩
    rw [p_in_law hn hn3 hWp hmk hf] at h1
    exact ⟨f, List.mem_filter.mpr ⟨hf, h1⟩, h2⟩
  · rintro ⟨f, hf, h2⟩
    obtain ⟨hf1, hf2⟩ := List.mem_filter.mp hf
    exact ⟨f, hf1, by rw [p_in_law hn hn3 hWp hmk hf1]; exact hf2, h2⟩
theorem z_who_tb (F : List (List (List Nat))) (c i : Nat) : (z_who F c).testBit i = true ↔ ∃ f ∈ F, (f_who 0 f c).testBit i = true := by
  unfold z_who
  have key : ∀ (G : List (List (List Nat))) (a : Nat), (G.foldl (fun a f => a ||| f_who 0 f c) a).testBit i = true ↔ a.testBit i = true ∨ ∃ f ∈ G, (f_who 0 f c).testBit i = true := by
    intro G
    induction G with
    | nil => intro a; simp
    | cons g r ih =>
      intro a
      rw [List.foldl_cons, ih, Nat.testBit_or, Bool.or_eq_true, or_assoc]
      constructor
      · rintro (h | h | ⟨f, hf, h⟩)
        · exact Or.inl h
        · exact Or.inr ⟨g, List.mem_cons_self, h⟩
        · exact Or.inr ⟨f, List.mem_cons_of_mem _ hf, h⟩
      · rintro (h | ⟨f, hf, h⟩)
        · exact Or.inl h
        · rcases List.mem_cons.mp hf with e | hf
          · subst e; exact Or.inr (Or.inl h)
          · exact Or.inr (Or.inr ⟨f, hf, h⟩)
  rw [key F 0]
  simp
theorem p_or_tb (m : Nat) (g : Nat → Nat) (i : Nat) : ∀ k, (p_or m g k).testBit i = true ↔ ∃ p, p < k ∧ m.testBit p = true ∧ (g p).testBit i = true := by
  intro k
  induction k with
  | zero => simp [p_or]
  | succ k ih =>
    unfold p_or
    rw [Nat.testBit_or, Bool.or_eq_true, ih]
    constructor
    · rintro (⟨p, h1, h2, h3⟩ | h)
      · exact ⟨p, by omega, h2, h3⟩
      · cases hm : m.testBit k with
        | false => rw [hm] at h; simp at h
        | true => rw [hm, if_pos rfl] at h; exact ⟨k, by omega, hm, h⟩
    · rintro ⟨p, h1, h2, h3⟩
      by_cases e : p = k
      · subst e; right; rw [h2, if_pos rfl]; exact h3
      · exact Or.inl ⟨p, by omega, h2, h3⟩
theorem law_who {w o n N mk c : Nat} {nu wc : Nat → Nat} {W : Nat → List (List Nat)} (hn : 0 < n) (hn3 : n ≤ 3) (hWp : ∀ dr, dr < n → ∀ p ∈ W dr, g_wyOk N n nu wc p) (hmk : l_mk w o n mk) : p_or mk (fun p => z_who (t_F n nu p (g_sel W n 0 0)) c) 9 = z_who (g_law W nu w o n) c := by
  simp only [t_F_eq hn]
  apply Nat.eq_of_testBit_eq
  intro i
  rw [Bool.eq_iff_iff, p_or_tb, z_who_tb, g_law_eq]
  constructor
  · rintro ⟨p, h1, h2, h3⟩
    obtain ⟨f, hf, h4⟩ := (z_who_tb _ _ _).mp h3
    obtain ⟨hf1, hf2⟩ := List.mem_filter.mp hf
    refine ⟨f, List.mem_filter.mpr ⟨hf1, ?_⟩, h4⟩
    rw [← p_in_law hn hn3 hWp hmk hf1]
    unfold p_in
    exact List.any_eq_true.mpr ⟨p, List.mem_range.mpr h1, by rw [h2, hf2]; rfl⟩
  · rintro ⟨f, hf, h4⟩
    obtain ⟨hf1, hf2⟩ := List.mem_filter.mp hf
    rw [← p_in_law hn hn3 hWp hmk hf1] at hf2
    unfold p_in at hf2
    obtain ⟨p, hp, h5⟩ := List.any_eq_true.mp hf2
    simp only [Bool.and_eq_true] at h5
    exact ⟨p, List.mem_range.mp hp, h5.1, (z_who_tb _ _ _).mpr ⟨f, List.mem_filter.mpr ⟨hf1, h5.2⟩, h4⟩⟩
