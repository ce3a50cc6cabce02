/-! families by the places of their orders -/
def f_ord (nu : Nat → Nat) : Nat → List (List Nat) → Nat
  | _, [] => 0
  | d, p :: r => 10 ^ d * nu (p.getLastD 0) + f_ord nu (d + 1) r
def f_pl (n : Nat) (nu : Nat → Nat) (p : Nat) (f : List (List Nat)) : Bool := decide (o_st n ≤ p) && decide (p < o_en n) && (f_ord nu 0 f == o_at p)
abbrev g_any (W : Nat → List (List Nat)) (k d s : Nat) : List (List (List Nat)) := g_fam g_bits (fun _ _ => true) W k d s
theorem f_ord_full (nu : Nat → Nat) {x : List (Option (List Nat))} (h : t_cnt x = x.length) : ∀ d, t_ord nu d x = f_ord nu d (x.filterMap id) := by
  induction x with
  | nil => intro d; rfl
  | cons a r ih =>
    intro d
    cases a with
    | none =>
      simp [t_cnt] at h
      have := t_cnt_le r
      omega
    | some p =>
      simp [t_cnt] at h
      show 10 ^ d * nu (p.getLastD 0) + t_ord nu (d + 1) r = 10 ^ d * nu (p.getLastD 0) + f_ord nu (d + 1) (r.filterMap id)
      rw [ih h]
theorem g_sel_fam (W : Nat → List (List Nat)) : ∀ (k d s : Nat), (g_sel W k d s).filterMap (fun x => if t_cnt x = k then some (x.filterMap id) else none) = g_any W k d s := by
  intro k
  induction k with
  | zero => intro d s; rfl
  | succ k ih =>
    intro d s
    rw [g_sel, List.filterMap_append]
    have h1 : ((g_sel W k (d + 1) s).map (none :: ·)).filterMap (fun x => if t_cnt x = k + 1 then some (x.filterMap id) else none) = [] := by
      rw [List.filterMap_eq_nil_iff]
      intro x hx
      obtain ⟨y, hy, rfl⟩ := List.mem_map.mp hx
      have h2 := (g_sel_ok W k (d + 1) s y hy).1
      have h3 := t_cnt_le y
      rw [if_neg (by simp [t_cnt]; omega)]
    rw [h1, List.nil_append, List.filterMap_flatMap, g_any, g_fam]
    congr 1
    funext p
    simp only [Bool.true_and]
    split
    · rw [← g_any, ← ih, List.filterMap_map, List.map_filterMap]
      congr 1
      funext y
      by_cases e : t_cnt y = k
      · simp [t_cnt, e]
      · simp [t_cnt, e]
    · rfl
theorem g_fm_filter {α β : Type} (S : List α) (t : α → Option β) (q : α → Bool) (q' : β → Bool) (h : ∀ x ∈ S, ∀ f, t x = some f → q x = q' f) : (S.filter q).filterMap t = (S.filterMap t).filter q' := by
  induction S with
  | nil => rfl
  | cons x r ih =>
    have ih := ih (fun y hy => h y (List.mem_cons_of_mem _ hy))
    have hx := h x List.mem_cons_self
    cases ht : t x with
    | none =>
      rw [List.filterMap_cons_none ht]
      by_cases e : q x = true
      · rw [List.filter_cons_of_pos e, List.filterMap_cons_none ht, ih]
      · rw [List.filter_cons_of_neg e, ih]
    | some f =>
      rw [List.filterMap_cons_some ht]
      have e1 := hx f ht
      by_cases e : q x = true
      · rw [List.filter_cons_of_pos e, List.filterMap_cons_some ht, ih, List.filter_cons_of_pos (by rw [← e1]; exact e)]
      · rw [List.filter_cons_of_neg e, ih, List.filter_cons_of_neg (by rw [← e1]; exact e)]
theorem t_F_eq {n : Nat} (hn : 0 < n) (nu : Nat → Nat) (p : Nat) (W : Nat → List (List Nat)) : t_F n nu p (g_sel W n 0 0) = (g_any W n 0 0).filter (f_pl n nu p) := by
  unfold t_F
  have ht : t_fam n = fun x => if t_cnt x = n then some (x.filterMap id) else none := by
    funext x
    unfold t_fam
    by_cases e : t_cnt x = n
    · rw [if_pos ⟨by omega, e⟩, if_pos e]
    · rw [if_neg (fun q => e q.2), if_neg e]
  rw [ht, g_fm_filter _ _ (t_pl n nu p) (f_pl n nu p) (fun x hx f hf => ?_), g_sel_fam]
  split at hf
  next e =>
    cases hf
    have hl := (g_sel_ok W n 0 0 x hx).1
    unfold t_pl f_pl
    rw [f_ord_full nu (by omega)]
  next => cases hf
/-- sums over the places whose bits are in a mask -/
def p_sum (m : Nat) (g : Nat → Nat) : Nat → Nat
  | 0 => 0
  | i + 1 => p_sum m g i + (if m.testBit i then g i else 0)
/-- whether a family has one of the first i places that are in a mask -/
def p_in (n : Nat) (nu : Nat → Nat) (m i : Nat) (f : List (List Nat)) : Bool := (List.range i).any (fun p => m.testBit p && f_pl n nu p f)
theorem f_pl_one {n : Nat} (hn : n ≤ 3) {nu : Nat → Nat} {p q : Nat} {f : List (List Nat)} (h1 : f_pl n nu p f = true) (h2 : f_pl n nu q f = true) : p = q := by
  unfold f_pl at h1 h2
  simp only [Bool.and_eq_true, decide_eq_true_eq, beq_iff_eq] at h1 h2
  exact o_inj hn h1.1.1 h1.1.2 h2.1.1 h2.1.2 (by rw [← h1.2, ← h2.2])
theorem g_len_or {α : Type} (F : List α) (a b c : α → Bool) (h : ∀ f ∈ F, c f = (a f || b f)) (hd : ∀ f ∈ F, ¬ (a f = true ∧ b f = true)) : (F.filter c).length = (F.filter a).length + (F.filter b).length := by
  induction F with
  | nil => rfl
  | cons f r ih =>
    have ih := ih (fun g hg => h g (List.mem_cons_of_mem _ hg)) (fun g hg => hd g (List.mem_cons_of_mem _ hg))
    have h1 := h f List.mem_cons_self
    have h2 := hd f List.mem_cons_self
    simp only [List.filter_cons, h1]
    cases ha : a f with
    | true =>
      cases hb : b f with
      | true => exact absurd ⟨ha, hb⟩ h2
      | false => simp; omega
    | false =>
      cases hb : b f with
      | true => simp; omega
      | false => simp; omega
theorem g_ff {α : Type} (F : List α) : (F.filter (fun _ => false)).length = 0 := by
  rw [List.filter_eq_nil_iff.mpr (fun _ _ => by simp)]; rfl
theorem p_sum_cnt {n : Nat} (hn : n ≤ 3) (nu : Nat → Nat) (m : Nat) (F : List (List (List Nat))) (r : List (List Nat) → Bool) : ∀ i, p_sum m (fun p => ((F.filter (f_pl n nu p)).filter r).length) i = (F.filter (fun f => r f && p_in n nu m i f)).length := by
  intro i
  induction i with
  | zero => simp only [p_sum, p_in, List.range_zero, List.any_nil, Bool.and_false]; exact (g_ff F).symm
  | succ i ih =>
    unfold p_sum
    rw [ih]
    have e : (if m.testBit i then ((F.filter (f_pl n nu i)).filter r).length else 0) = (F.filter (fun f => r f && (m.testBit i && f_pl n nu i f))).length := by
      by_cases h : m.testBit i = true
      · rw [if_pos h, List.filter_filter]
        congr 1
        apply List.filter_congr
        intro f _
        simp [h]
      · have h' : m.testBit i = false := by simpa using h
        rw [if_neg h]
        simp only [h', Bool.false_and, Bool.and_false]
        exact (g_ff F).symm
    rw [e]
    symm
    apply g_len_or
    · intro f _
      unfold p_in
      rw [List.range_succ, List.any_append]
      simp only [List.any_cons, List.any_nil, Bool.or_false]
      cases r f <;> simp
    · intro f _ hh
      obtain ⟨h1, h2⟩ := hh
      simp only [Bool.and_eq_true] at h1 h2
      obtain ⟨-, h1⟩ := h1
      unfold p_in at h1
      obtain ⟨q, hq, h3⟩ := List.any_eq_true.mp h1
      have hq2 := List.mem_range.mp hq
      simp only [Bool.and_eq_true] at h3
      have := f_pl_one hn h3.2 h2.2.2
      omega
section PSum
variable {X : Nat × (Nat → Int32)} {K : Int32 → q_M → Prop}
theorem c_familiesBy {d m : Nat} {M : q_M} {g : Nat → Nat} (hm : m < 2 ^ 31) (hg : ∀ p, p < 9 → M 66 p = nI (g p)) (h : K (nI (p_sum m g 9)) M) : q_Ci X d 35 [.ref 64, .int (nI m)] M K := by
  refine vc35 ?_
  have loop : ∀ (j i : Nat), i + j = 9 → q_Ex X d 35 4 [some (.ref 64), some (.int (nI m)), some (.int (nI (p_sum m g i))), some (.int (nI i))] [] M (q_ri K) := by
    intro j
    induction j with
    | zero =>
      intro i hi
      refine vc35_p4 ⟨fun _ => by rw [show i = 9 by omega]; exact h, fun g => absurd ((q_le (a := 9) (by omega) (by omega)).mpr (by omega)) g⟩
    | succ j ih =>
      intro i hi
      refine vc35_p4 ⟨fun g => absurd ((q_le (a := 9) (by omega) (by omega)).mp g) (by omega), fun _ => ?_⟩
      rw [n_bit0 hm (by omega), q_cn (by omega), hg i (by omega), nI_add, nI_1]
      have := ih (i + 1) (by omega)
      unfold p_sum at this
      refine ⟨fun q => ?_, fun q => ⟨q_vi (by omega) (by decide), ?_⟩⟩
      · rw [q] at this; exact this
      · have q' : m.testBit i = true := by simpa using q
        rw [q'] at this; exact this
  exact loop 9 0 (by omega)
theorem c_familiesThrough {d m c N : Nat} {M : q_M} {g : Nat → Nat} (hd : 0 < d) (hm : m < 2 ^ 31) (hN : M 11 2 = nI N) (hN2 : N ≤ 30) (hc : c < N) (hg : ∀ p, p < 9 → M (69 + p) c = nI (g p)) (h : K (nI (p_sum m g 9)) M) : q_Ci X d 37 [.ref 64, .int (nI c), .int (nI m)] M K := by
  refine vc37 ?_
  have loop : ∀ (j i : Nat), i + j = 9 → q_Ex X d 37 5 [some (.ref 64), some (.int (nI c)), some (.int (nI m)), some (.int (nI (p_sum m g i))), some (.int (nI i))] [] M (q_ri K) := by
    intro j
    induction j with
    | zero =>
      intro i hi
      refine vc37_p5 hd ⟨fun _ => by rw [show i = 9 by omega]; exact h, fun g => absurd ((q_le (a := 9) (by omega) (by omega)).mpr (by omega)) g⟩
    | succ j ih =>
      intro i hi
      refine vc37_p5 hd ⟨fun g => absurd ((q_le (a := 9) (by omega) (by omega)).mp g) (by omega), fun _ => ?_⟩
      refine c_hasCell hN (by omega) (fun t ht e => ?_) (fun q => absurd rfl (q c hc))
      refine ⟨fun q => absurd q (by decide), fun _ => ?_⟩
      rw [n_bit0 hm (by omega), q_cn (show i < 2 ^ 31 by omega), q_cn (show c < 2 ^ 31 by omega), hg i (by omega), nI_add, nI_1]
      have := ih (i + 1) (by omega)
      unfold p_sum at this
      refine ⟨fun q => ?_, fun q => ⟨q_vi (by omega) (by decide), q_vi (by omega) (by decide), ?_⟩⟩
      · rw [q] at this; exact this
      · have q' : m.testBit i = true := by simpa using q
        rw [q'] at this; exact this
  exact loop 9 0 (by omega)
def p_or (m : Nat) (g : Nat → Nat) : Nat → Nat
  | 0 => 0
  | i + 1 => p_or m g i ||| (if m.testBit i then g i else 0)
theorem c_doorsThrough {d m c N : Nat} {M : q_M} {g : Nat → Nat} (hd : 0 < d) (hm : m < 2 ^ 31) (hN : M 11 2 = nI N) (hN2 : N ≤ 30) (hc : c < N) (hg : ∀ p, p < 9 → M (79 + p) c = nI (g p)) (h : K (nI (p_or m g 9)) M) : q_Ci X d 38 [.ref 64, .int (nI c), .int (nI m)] M K := by
  refine vc38 ?_
  have loop : ∀ (j i : Nat), i + j = 9 → q_Ex X d 38 5 [some (.ref 64), some (.int (nI c)), some (.int (nI m)), some (.int (nI (p_or m g i))), some (.int (nI i))] [] M (q_ri K) := by
    intro j
    induction j with
    | zero =>
      intro i hi
      refine vc38_p5 hd ⟨fun _ => by rw [show i = 9 by omega]; exact h, fun g => absurd ((q_le (a := 9) (by omega) (by omega)).mpr (by omega)) g⟩
    | succ j ih =>
      intro i hi
      refine vc38_p5 hd ⟨fun g => absurd ((q_le (a := 9) (by omega) (by omega)).mp g) (by omega), fun _ => ?_⟩
      refine c_hasCell hN (by omega) (fun t ht e => ?_) (fun q => absurd rfl (q c hc))
      refine ⟨fun q => absurd q (by decide), fun _ => ?_⟩
      rw [n_bit0 hm (by omega), q_cn (show i < 2 ^ 31 by omega), q_cn (show c < 2 ^ 31 by omega), hg i (by omega), n_or, nI_1]
      have := ih (i + 1) (by omega)
      unfold p_or at this
      refine ⟨fun q => ?_, fun q => ⟨q_vi (by omega) (by decide), q_vi (by omega) (by decide), ?_⟩⟩
      · rw [q] at this; simpa using this
      · have q' : m.testBit i = true := by simpa using q
        rw [q'] at this; exact this
  exact loop 9 0 (by omega)
def p_mn (m : Nat) (g : Nat → Option Nat) : Nat → Option Nat
  | 0 => none
  | i + 1 => if m.testBit i then (match g i with | none => p_mn m g i | some x => z_mn (p_mn m g i) x) else p_mn m g i
theorem p_mn_le {m : Nat} {g : Nat → Option Nat} {B : Nat} (hg : ∀ p x, g p = some x → x ≤ B) : ∀ (i x : Nat), p_mn m g i = some x → x ≤ B := by
  intro i
  induction i with
  | zero => intro x h; cases h
  | succ i ih =>
    intro x h
    unfold p_mn at h
    cases hm : m.testBit i with
    | false => rw [hm] at h; exact ih x h
    | true =>
      rw [hm, if_pos rfl] at h
      cases hgi : g i with
      | none => rw [hgi] at h; exact ih x h
      | some y =>
        have hy := hg i y hgi
        rw [hgi] at h
        cases hp : p_mn m g i with
        | none => rw [hp] at h; cases h; exact hy
        | some z =>
          have hz := ih z hp
          rw [hp] at h
          unfold z_mn at h
          dsimp only at h
          by_cases e : y < z
          · rw [if_pos e] at h; cases h; exact hy
          · rw [if_neg e] at h; cases h; exact hz
theorem c_leastCostBy {d m : Nat} {M : q_M} {g : Nat → Option Nat} {l : Nat → Nat} (hm : m < 2 ^ 31) (hl : ∀ p, p < 9 → M 66 p = nI (l p) ∧ l p < 2 ^ 31 ∧ (l p = 0 ↔ g p = none)) (hg : ∀ p, p < 9 → M 67 p = nI ((g p).getD 0)) (hgb : ∀ p x, g p = some x → x ≤ 1000) (h : K (g_oj (p_mn m g 9)) M) : q_Ci X d 36 [.ref 64, .int (nI m)] M K := by
  refine vc36 ?_
  have loop : ∀ (j i : Nat), i + j = 9 → q_Ex X d 36 5 [some (.ref 64), some (.int (nI m)), some (.int (g_oj (p_mn m g i))), some (.int (nI i)), none] [] M (q_ri K) := by
    intro j
    induction j with
    | zero =>
      intro i hi
      refine vc36_p5 ⟨fun _ => by rw [show i = 9 by omega]; exact h, fun g => absurd ((q_le (a := 9) (by omega) (by omega)).mpr (by omega)) g⟩
    | succ j ih =>
      intro i hi
      have hv9 : vp_in (nI i) 9 := q_vi (by omega) (by decide)
      obtain ⟨l1, l2, l3⟩ := hl i (by omega)
      have hnext := ih (i + 1) (by omega)
      refine vc36_p5 ⟨fun g => absurd ((q_le (a := 9) (by omega) (by omega)).mp g) (by omega), fun _ => ?_⟩
      rw [n_bit0 hm (by omega), q_cn (by omega), l1, hg i (by omega), nI_1]
      unfold p_mn at hnext
      refine ⟨fun q => by rw [q] at hnext; exact hnext, fun q => ⟨hv9, fun q2 => ?_, fun q2 => ?_⟩⟩
      · have q' : m.testBit i = true := by simpa using q
        have l0 : l i = 0 := by have := (q_le (b := 0) l2 (by omega)).mp q2; omega
        rw [q', if_pos rfl, l3.mp l0] at hnext
        exact hnext
      · have q' : m.testBit i = true := by simpa using q
        have l0 : ¬ l i = 0 := fun e => q2 (by rw [e]; decide)
        obtain ⟨x, hx⟩ : ∃ x, g i = some x := by
          cases hgi : g i with
          | none => exact absurd (l3.mpr hgi) l0
          | some x => exact ⟨x, rfl⟩
        have hx1 := hgb i x hx
        rw [q', if_pos rfl, hx] at hnext
        dsimp only at hnext
        rw [hx, show (some x).getD 0 = x from rfl]
        cases hp : p_mn m g i with
        | none =>
          rw [hp] at hnext
          exact ⟨fun _ => ⟨hv9, hnext⟩, fun q3 => absurd rfl q3⟩
        | some y =>
          have hy := p_mn_le hgb i y hp
          rw [hp] at hnext
          unfold z_mn at hnext
          dsimp only at hnext
          rw [show g_oj (some y) = nI y from rfl, q_le (by omega) (by omega)]
          refine ⟨fun q3 => absurd (show (-9 : Int32) < 0 by decide) (by rw [← q3]; exact q_nlt0 (by omega)), fun _ => ⟨hv9, fun q4 => ?_, fun q4 => ⟨hv9, ?_⟩⟩⟩
          · rw [if_neg (by omega)] at hnext; exact hnext
          · rw [if_pos (by omega)] at hnext; exact hnext
  exact loop 9 0 (by omega)
end PSum
