/-! as many ways as can be: both ways of counting -/
def g_mst (Ws : Nat → List (List Nat)) : Nat → Nat → Nat → Nat
  | 0, _, _ => 0
  | k + 1, d, s => (Ws d).foldl (fun a p => if g_bits p &&& s == 0 then max a (1 + g_mst Ws k (d + 1) (s ||| g_bits p)) else a) (g_mst Ws k (d + 1) s)
def t_max (m : Nat) (S : List (List (Option (List Nat)))) : Prop := (∃ x ∈ S, t_cnt x = m) ∧ ∀ x ∈ S, t_cnt x ≤ m
theorem t_max_one {m m' : Nat} {S : List (List (Option (List Nat)))} (h : t_max m S) (h2 : t_max m' S) : m = m' := by
  obtain ⟨⟨x, x1, x2⟩, h3⟩ := h
  obtain ⟨⟨y, y1, y2⟩, h4⟩ := h2
  have := h3 y y1
  have := h4 x x1
  omega
theorem g_mst_max (Ws : Nat → List (List Nat)) : ∀ (k d s : Nat), t_max (g_mst Ws k d s) (g_sel Ws k d s) ∧ g_mst Ws k d s ≤ k := by
  intro k
  induction k with
  | zero => intro d s; exact ⟨⟨⟨[], by simp [g_sel], rfl⟩, fun x hx => by simp [g_sel] at hx; subst hx; exact Nat.le_refl 0⟩, Nat.le_refl 0⟩
  | succ k ih =>
    intro d s
    unfold g_mst g_sel
    have key : ∀ (L : List (List Nat)) (m : Nat) (S : List (List (Option (List Nat)))), t_max m S → m ≤ k + 1 → t_max (L.foldl (fun a p => if g_bits p &&& s == 0 then max a (1 + g_mst Ws k (d + 1) (s ||| g_bits p)) else a) m) (S ++ L.flatMap (fun p => if g_bits p &&& s == 0 then (g_sel Ws k (d + 1) (s ||| g_bits p)).map (some p :: ·) else [])) ∧ L.foldl (fun a p => if g_bits p &&& s == 0 then max a (1 + g_mst Ws k (d + 1) (s ||| g_bits p)) else a) m ≤ k + 1 := by
      intro L
      induction L with
      | nil => intro m S h h2; exact ⟨by simpa using h, h2⟩
      | cons p r ih2 =>
        intro m S h h2
        rw [List.foldl_cons, List.flatMap_cons, ← List.append_assoc]
        obtain ⟨⟨⟨y, y1, y2⟩, y3⟩, y4⟩ := ih (d + 1) (s ||| g_bits p)
        obtain ⟨⟨z, z1, z2⟩, z3⟩ := h
        by_cases e : (g_bits p &&& s == 0) = true
        · rw [if_pos e, if_pos e]
          refine ih2 _ _ ⟨?_, fun x hx => ?_⟩ (by omega)
          · rcases Nat.le_total m (1 + g_mst Ws k (d + 1) (s ||| g_bits p)) with q | q
            · exact ⟨some p :: y, List.mem_append_right _ (List.mem_map.mpr ⟨y, y1, rfl⟩), by simp only [t_cnt]; omega⟩
            · exact ⟨z, List.mem_append_left _ z1, by omega⟩
          · rcases List.mem_append.mp hx with q | q
            · have := z3 x q; omega
            · obtain ⟨u, u1, rfl⟩ := List.mem_map.mp q
              have := y3 u u1
              simp only [t_cnt]; omega
        · rw [if_neg e, if_neg e]
          exact ih2 _ _ ⟨⟨z, by simpa using z1, z2⟩, fun x hx => z3 x (by simpa using hx)⟩ h2
    obtain ⟨⟨⟨y, y1, y2⟩, y3⟩, y4⟩ := ih (d + 1) s
    exact key (Ws d) _ _ ⟨⟨none :: y, List.mem_map.mpr ⟨y, y1, rfl⟩, by simpa [t_cnt] using y2⟩, fun x hx => by
      obtain ⟨u, u1, rfl⟩ := List.mem_map.mp hx
      have := y3 u u1
      simpa [t_cnt] using this⟩ (by omega)
theorem g_mst_top (Ws : Nat → List (List Nat)) (k d s : Nat) (L : List (List Nat)) : ∀ m, k + 1 ≤ m → L.foldl (fun a p => if g_bits p &&& s == 0 then max a (1 + g_mst Ws k (d + 1) (s ||| g_bits p)) else a) m = m := by
  induction L with
  | nil => intro m _; rfl
  | cons p r ih =>
    intro m hm
    rw [List.foldl_cons]
    have h2 := (g_mst_max Ws k (d + 1) (s ||| g_bits p)).2
    have e : (if g_bits p &&& s == 0 then max m (1 + g_mst Ws k (d + 1) (s ||| g_bits p)) else m) = m := by
      split
      · omega
      · rfl
    rw [e]
    exact ih m hm
/-- all have none: that is a set, too -/
theorem g_sel_none (Ws : Nat → List (List Nat)) : ∀ (k d s : Nat), List.replicate k none ∈ g_sel Ws k d s := by
  intro k
  induction k with
  | zero => intro d s; simp [g_sel]
  | succ k ih =>
    intro d s
    unfold g_sel
    rw [List.replicate_succ]
    exact List.mem_append_left _ (List.mem_map.mpr ⟨_, ih (d + 1) s, rfl⟩)
theorem t_none : ∀ k, t_cnt (List.replicate k none) = 0 ∧ t_bits (List.replicate k none) = 0 := by
  intro k
  induction k with
  | zero => exact ⟨rfl, rfl⟩
  | succ k ih => rw [List.replicate_succ]; exact ih
def t_inv (P : List (List (Option (List Nat)))) (a : Nat × Nat) : Prop := (∀ x ∈ P, t_cnt x ≤ a.1) ∧ (a.1 = 0 → a.2 = 0) ∧ (0 < a.1 → (∃ x ∈ P, t_cnt x = a.1) ∧ ∀ i, a.2.testBit i = true ↔ ∀ x ∈ P, t_cnt x = a.1 → (t_bits x).testBit i = true)
theorem t_bits_0 {x : List (Option (List Nat))} (h : t_cnt x = 0) : t_bits x = 0 := by
  induction x with
  | nil => rfl
  | cons a r ih =>
    cases a with
    | none => exact ih h
    | some p => simp [t_cnt] at h
theorem t_inv_fold : ∀ (S P : List (List (Option (List Nat)))) (a : Nat × Nat), t_inv P a → t_inv (P ++ S) (S.foldl t_ms a) := by
  intro S
  induction S with
  | nil => intro P a h; simpa using h
  | cons x r ih =>
    intro P a h
    rw [List.foldl_cons, show P ++ x :: r = (P ++ [x]) ++ r by simp]
    refine ih _ _ ?_
    obtain ⟨h1, h2, h3⟩ := h
    unfold t_ms
    by_cases c1 : a.1 < t_cnt x
    · rw [if_pos c1]
      refine ⟨fun y hy => ?_, fun q => ?_, fun _ => ⟨⟨x, by simp, rfl⟩, fun i => ⟨fun hi y hy hc => ?_, fun hi => hi x (by simp) rfl⟩⟩⟩
      · rcases List.mem_append.mp hy with q | q
        · have := h1 y q; dsimp only; omega
        · simp at q; subst q; exact Nat.le_refl _
      · dsimp only at q; omega
      · rcases List.mem_append.mp hy with q | q
        · have := h1 y q; dsimp only at hc; omega
        · simp at q; subst q; exact hi
    · rw [if_neg c1]
      by_cases c2 : t_cnt x = a.1
      · rw [if_pos c2]
        refine ⟨fun y hy => ?_, fun q => ?_, fun q => ?_⟩
        · rcases List.mem_append.mp hy with q | q
          · exact h1 y q
          · simp at q; subst q; exact Nat.le_of_eq c2
        · dsimp only at q ⊢
          rw [h2 q, Nat.zero_and]
        · dsimp only at q ⊢
          obtain ⟨⟨z, z1, z2⟩, z3⟩ := h3 q
          refine ⟨⟨z, List.mem_append_left _ z1, z2⟩, fun i => ?_⟩
          rw [Nat.testBit_and, Bool.and_eq_true, z3 i]
          constructor
          · rintro ⟨u1, u2⟩ y hy hc
            rcases List.mem_append.mp hy with q | q
            · exact u1 y q hc
            · simp at q; subst q; exact u2
          · intro u
            exact ⟨fun y hy hc => u y (List.mem_append_left _ hy) hc, u x (by simp) c2⟩
      · rw [if_neg c2]
        refine ⟨fun y hy => ?_, h2, fun q => ?_⟩
        · rcases List.mem_append.mp hy with q | q
          · exact h1 y q
          · simp at q; subst q; omega
        · obtain ⟨⟨z, z1, z2⟩, z3⟩ := h3 q
          refine ⟨⟨z, List.mem_append_left _ z1, z2⟩, fun i => ?_⟩
          rw [z3 i]
          constructor
          · intro u y hy hc
            rcases List.mem_append.mp hy with q | q
            · exact u y q hc
            · simp at q; subst q; exact absurd hc c2
          · intro u y hy hc
            exact u y (List.mem_append_left _ hy) hc
theorem t_ms_max (Ws : Nat → List (List Nat)) (k : Nat) : ((g_sel Ws k 0 0).foldl t_ms (0, 0)).1 = g_mst Ws k 0 0 ∧ ∀ i, ((g_sel Ws k 0 0).foldl t_ms (0, 0)).2.testBit i = true ↔ ∀ x ∈ g_sel Ws k 0 0, t_cnt x = g_mst Ws k 0 0 → (t_bits x).testBit i = true := by
  have h0 : t_inv [] (0, 0) := ⟨fun x hx => by simp at hx, fun _ => rfl, fun q => absurd q (by decide)⟩
  have h := t_inv_fold (g_sel Ws k 0 0) [] (0, 0) h0
  rw [List.nil_append] at h
  obtain ⟨h1, h2, h3⟩ := h
  generalize (g_sel Ws k 0 0).foldl t_ms (0, 0) = a at h1 h2 h3
  have hm := (g_mst_max Ws k 0 0).1
  have hn := g_sel_none Ws k 0 0
  have e : a.1 = g_mst Ws k 0 0 := by
    rcases Nat.eq_zero_or_pos a.1 with q | q
    · exact t_max_one (S := g_sel Ws k 0 0) ⟨⟨_, hn, by rw [(t_none k).1, q]⟩, h1⟩ hm
    · exact t_max_one (S := g_sel Ws k 0 0) ⟨(h3 q).1, h1⟩ hm
  refine ⟨e, fun i => ?_⟩
  rw [← e]
  rcases Nat.eq_zero_or_pos a.1 with q | q
  · rw [h2 q, Nat.zero_testBit]
    constructor
    · intro u; cases u
    · intro u
      have := u _ hn (by rw [(t_none k).1, q])
      rw [(t_none k).2, Nat.zero_testBit] at this
      exact this
  · exact (h3 q).2 i
/-! a stone more -/
def g_st (kd : Nat → Nat) (c : Nat) : Nat → Nat := fun x => if x = c then 1 else kd x
def g_no (c : Nat) (p : List Nat) : Bool := !(g_bits p).testBit c
theorem g_no_cons {c x : Nat} {q : List Nat} (h : x ≠ c) : g_no c (x :: q) = g_no c q := by
  unfold g_no
  rw [g_bits, Nat.testBit_or, Nat.testBit_two_pow, decide_eq_false h, Bool.false_or]
theorem g_nx_st {R C : Nat} {kd : Nat → Nat} {c x st : Nat} : g_nx R C (g_st kd c) x st = match g_nx R C kd x st with | none => none | some t => if t = c then none else some t := by
  unfold g_nx g_st
  by_cases h0 : st = 0
  · rw [if_pos h0, if_pos h0]
    by_cases h1 : x + C < R * C ∧ kd (x + C) ≠ 1
    · rw [if_pos h1]
      by_cases h2 : x + C = c
      · rw [if_pos h2, if_neg (fun q => q.2 rfl)]
        simp [h2]
      · rw [if_neg h2, if_pos h1]
        simp [h2]
    · rw [if_neg h1]
      rw [if_neg (fun q => ?_)]
      by_cases h2 : x + C = c
      · rw [if_pos h2] at q; exact q.2 rfl
      · rw [if_neg h2] at q; exact h1 q
  · rw [if_neg h0, if_neg h0]
    by_cases h1 : x % C + 1 < C ∧ kd (x + 1) ≠ 1
    · rw [if_pos h1]
      by_cases h2 : x + 1 = c
      · rw [if_pos h2, if_neg (fun q => q.2 rfl)]
        simp [h2]
      · rw [if_neg h2, if_pos h1]
        simp [h2]
    · rw [if_neg h1]
      rw [if_neg (fun q => ?_)]
      by_cases h2 : x + 1 = c
      · rw [if_pos h2] at q; exact q.2 rfl
      · rw [if_neg h2] at q; exact h1 q
theorem g_pth_hd {R C : Nat} {kd : Nat → Nat} {c : Nat} : ∀ (f : Nat), (g_pth R C kd f c).filter (g_no c) = [] := by
  intro f
  rw [List.filter_eq_nil_iff]
  intro p hp
  have h : c ∈ p := by
    cases f with
    | zero =>
      unfold g_pth at hp
      by_cases e : kd c = 3
      · rw [if_pos e] at hp; simp at hp; subst hp; simp
      · rw [if_neg e] at hp; simp at hp
    | succ f =>
      unfold g_pth at hp
      by_cases e : kd c = 3
      · rw [if_pos e] at hp; simp at hp; subst hp; simp
      · rw [if_neg e] at hp
        by_cases e2 : kd c = 2
        · rw [if_pos e2] at hp; simp at hp
        · rw [if_neg e2] at hp
          obtain ⟨q, -, rfl⟩ := List.mem_map.mp hp
          simp
  unfold g_no
  rw [(g_bits_tb p c).mpr h]
  decide
theorem g_o_st {R C : Nat} {kd : Nat → Nat} {c x f st : Nat} (ih : ∀ t, t ≠ c → g_pth R C (g_st kd c) f t = (g_pth R C kd f t).filter (g_no c)) : g_o (g_nx R C (g_st kd c) x st) (g_pth R C (g_st kd c) f) = (g_o (g_nx R C kd x st) (g_pth R C kd f)).filter (g_no c) := by
  rw [g_nx_st]
  cases g_nx R C kd x st with
  | none => rfl
  | some t =>
    by_cases e : t = c
    · subst e
      simp only [if_true]
      exact (g_pth_hd f).symm
    · simp only [if_neg e]
      exact ih t e
theorem g_mf {c x : Nat} (h : x ≠ c) (L : List (List Nat)) : (L.filter (g_no c)).map (x :: ·) = (L.map (x :: ·)).filter (g_no c) := by
  rw [List.filter_map]
  congr 1
  apply List.filter_congr
  intro q _
  exact (g_no_cons h).symm
theorem g_pth_st {R C : Nat} {kd : Nat → Nat} {c : Nat} : ∀ (f x : Nat), x ≠ c → g_pth R C (g_st kd c) f x = (g_pth R C kd f x).filter (g_no c) := by
  intro f
  induction f with
  | zero =>
    intro x hx
    unfold g_pth
    rw [show g_st kd c x = kd x from if_neg hx]
    by_cases e : kd x = 3
    · rw [if_pos e]
      have : g_no c [x] = true := by rw [g_no_cons hx]; simp [g_no, g_bits]
      rw [List.filter_cons_of_pos this]; rfl
    · rw [if_neg e]; rfl
  | succ f ih =>
    intro x hx
    unfold g_pth
    rw [show g_st kd c x = kd x from if_neg hx]
    by_cases e : kd x = 3
    · rw [if_pos e, if_pos e]
      have : g_no c [x] = true := by rw [g_no_cons hx]; simp [g_no, g_bits]
      rw [List.filter_cons_of_pos this]; rfl
    · rw [if_neg e, if_neg e]
      by_cases e2 : kd x = 2
      · rw [if_pos e2, if_pos e2]; rfl
      · rw [if_neg e2, if_neg e2, g_o_st ih, g_o_st ih, ← List.filter_append, g_mf hx]
theorem g_wy_st {R C : Nat} {kd : Nat → Nat} {c x : Nat} (hx : x ≠ c) : g_wy R C (g_st kd c) x = (g_wy R C kd x).filter (g_no c) := by
  unfold g_wy
  rw [g_o_st (g_pth_st 10), g_o_st (g_pth_st 10), ← List.filter_append, g_mf hx]
theorem g_sel_filter (q : List Nat → Bool) (Ws : Nat → List (List Nat)) : ∀ (k d s : Nat), g_sel (fun d => (Ws d).filter q) k d s = (g_sel Ws k d s).filter (fun x => x.all (fun o => o.all q)) := by
  intro k
  induction k with
  | zero => intro d s; rfl
  | succ k ih =>
    intro d s
    unfold g_sel
    rw [List.filter_append, List.filter_flatMap, ih]
    congr 1
    · rw [List.filter_map]
      congr 1
    · induction (Ws d) with
      | nil => rfl
      | cons p r ih2 =>
        by_cases h3 : q p = true
        · rw [List.filter_cons_of_pos h3, List.flatMap_cons, List.flatMap_cons, ih2]
          congr 1
          split
          · rw [ih, List.filter_map]
            congr 1
            apply List.filter_congr
            intro x _
            simp [h3]
          · rfl
        · rw [List.filter_cons_of_neg h3, List.flatMap_cons, ih2]
          have h3' : q p = false := by simpa using h3
          split
          · simp [List.filter_map, h3']
          · simp
theorem t_no {c : Nat} (x : List (Option (List Nat))) : x.all (fun o => o.all (g_no c)) = !(t_bits x).testBit c := by
  induction x with
  | nil => simp [t_bits]
  | cons a r ih =>
    cases a with
    | none => simpa [t_bits] using ih
    | some p =>
      rw [List.all_cons, ih]
      simp [t_bits, g_no, Nat.testBit_or]
theorem f_no {c : Nat} (f : List (List Nat)) : f.all (g_no c) = !(f_bits f).testBit c := by
  induction f with
  | nil => simp [f_bits, g_bits]
  | cons p r ih =>
    rw [List.all_cons, ih]
    have e : f_bits (p :: r) = g_bits p ||| f_bits r := by unfold f_bits; rw [List.flatten_cons, g_bits_app]
    rw [e, Nat.testBit_or]
    simp [g_no]
/-- fewer with a stone more: just when all of the most go there -/
theorem g_mst_st {c k : Nat} (Ws : Nat → List (List Nat)) : g_mst (fun d => (Ws d).filter (g_no c)) k 0 0 < g_mst Ws k 0 0 ↔ ∀ x ∈ g_sel Ws k 0 0, t_cnt x = g_mst Ws k 0 0 → (t_bits x).testBit c = true := by
  obtain ⟨⟨⟨y, y1, y2⟩, y3⟩, -⟩ := g_mst_max (fun d => (Ws d).filter (g_no c)) k 0 0
  obtain ⟨⟨⟨z, z1, z2⟩, z3⟩, -⟩ := g_mst_max Ws k 0 0
  rw [g_sel_filter] at y1 y3
  constructor
  · intro h x hx hc
    cases hb : (t_bits x).testBit c with
    | true => rfl
    | false =>
      have := y3 x (List.mem_filter.mpr ⟨hx, by rw [t_no, hb]; rfl⟩)
      omega
  · intro h
    obtain ⟨y4, y5⟩ := List.mem_filter.mp y1
    have h1 := z3 y y4
    rcases Nat.lt_or_ge (g_mst (fun d => (Ws d).filter (g_no c)) k 0 0) (g_mst Ws k 0 0) with q | q
    · exact q
    · have h2 := h y y4 (by omega)
      rw [t_no, h2] at y5
      exact absurd y5 (by decide)
theorem f_st_cnt {c : Nat} (F : List (List (List Nat))) : F.length - (F.filter (fun f => f.all (g_no c))).length = z_cnt F c := by
  have h : (F.filter (fun f => f.all (g_no c))).length + z_cnt F c = F.length := by
    unfold z_cnt
    induction F with
    | nil => rfl
    | cons f r ih =>
      rw [List.filter_cons, List.filter_cons, f_no]
      cases (f_bits f).testBit c with
      | true => simp; omega
      | false => simp; omega
  omega
