/-! the class's study: all sets of ways that don't cross -/
def t_cnt : List (Option (List Nat)) → Nat
  | [] => 0
  | none :: r => t_cnt r
  | some _ :: r => t_cnt r + 1
def t_bits : List (Option (List Nat)) → Nat
  | [] => 0
  | none :: r => t_bits r
  | some p :: r => g_bits p ||| t_bits r
def t_ord (nu : Nat → Nat) : Nat → List (Option (List Nat)) → Nat
  | _, [] => 0
  | d, none :: r => t_ord nu (d + 1) r
  | d, some p :: r => 10 ^ d * nu (p.getLastD 0) + t_ord nu (d + 1) r
/-- each door takes none, or one of its ways that is still free -/
def g_sel (Ws : Nat → List (List Nat)) : Nat → Nat → Nat → List (List (Option (List Nat)))
  | 0, _, _ => [[]]
  | k + 1, d, s => (g_sel Ws k (d + 1) s).map (none :: ·) ++ (Ws d).flatMap (fun p => if g_bits p &&& s == 0 then (g_sel Ws k (d + 1) (s ||| g_bits p)).map (some p :: ·) else [])
def t_ms (a : Nat × Nat) (x : List (Option (List Nat))) : Nat × Nat := if a.1 < t_cnt x then (t_cnt x, t_bits x) else if t_cnt x = a.1 then (a.1, a.2 &&& t_bits x) else a
/-- the family of a set with a way for each of the n doors, n > 0 -/
def t_fam (n : Nat) (x : List (Option (List Nat))) : Option (List (List Nat)) := if 0 < t_cnt x ∧ t_cnt x = n then some (x.filterMap id) else none
/-- whether a family's order has the place p among those of n wells -/
def t_pl (n : Nat) (nu : Nat → Nat) (p : Nat) (x : List (Option (List Nat))) : Bool := decide (o_st n ≤ p) && decide (p < o_en n) && (t_ord nu 0 x == o_at p)
/-- the families in S whose order has the place p -/
def t_F (n : Nat) (nu : Nat → Nat) (p : Nat) (S : List (List (Option (List Nat)))) : List (List (List Nat)) := (S.filter (t_pl n nu p)).filterMap (t_fam n)
def u_at (M : q_M) (n N : Nat) (co nu : Nat → Nat) (S : List (List (Option (List Nat)))) : Prop := M 64 0 = nI (S.foldl t_ms (0, 0)).1 ∧ M 64 1 = nI (S.foldl t_ms (0, 0)).2 ∧ ∀ p, p < 9 → s_p M N co p (t_F n nu p S)
theorem t_F_push (n : Nat) (nu : Nat → Nat) (p : Nat) (S : List (List (Option (List Nat)))) (x : List (Option (List Nat))) : t_F n nu p (S ++ [x]) = t_F n nu p S ++ (if t_pl n nu p x then (t_fam n x).toList else []) := by
  unfold t_F
  rw [List.filter_append, List.filterMap_append]
  congr 1
  by_cases h : t_pl n nu p x = true
  · rw [if_pos h]
    simp [List.filter, h, List.filterMap]
    cases t_fam n x <;> simp
  · rw [if_neg h]
    simp [List.filter, h]
theorem t_cnt_le (x : List (Option (List Nat))) : t_cnt x ≤ x.length := by
  induction x with
  | nil => exact Nat.le_refl 0
  | cons a r ih => cases a <;> simp [t_cnt] <;> omega
theorem t_full {x : List (Option (List Nat))} (h : t_cnt x = x.length) : (∀ (i : Nat) (q : List Nat), (x.filterMap id)[i]? = some q → x[i]? = some (some q)) ∧ (x.filterMap id).length = x.length ∧ f_bits (x.filterMap id) = t_bits x := by
  induction x with
  | nil => exact ⟨fun i q hq => by simp at hq, rfl, rfl⟩
  | cons a r ih =>
    cases a with
    | none =>
      simp [t_cnt] at h
      have := t_cnt_le r
      omega
    | some p =>
      simp [t_cnt] at h
      obtain ⟨i1, i2, i3⟩ := ih h
      refine ⟨fun i q hq => ?_, by simpa using i2, ?_⟩
      · cases i with
        | zero => simpa using hq
        | succ i => simpa using i1 i q (by simpa using hq)
      · show f_bits (p :: r.filterMap id) = g_bits p ||| t_bits r
        rw [← i3]
        unfold f_bits
        rw [List.flatten_cons, g_bits_app]
theorem t_ms_lt {n : Nat} (S : List (List (Option (List Nat)))) (h : ∀ x ∈ S, x.length ≤ n ∧ t_bits x < 2 ^ 30) : (S.foldl t_ms (0, 0)).1 ≤ n ∧ (S.foldl t_ms (0, 0)).2 < 2 ^ 30 := by
  have key : ∀ (S : List (List (Option (List Nat)))) (a : Nat × Nat), a.1 ≤ n → a.2 < 2 ^ 30 → (∀ x ∈ S, x.length ≤ n ∧ t_bits x < 2 ^ 30) → (S.foldl t_ms a).1 ≤ n ∧ (S.foldl t_ms a).2 < 2 ^ 30 := by
    intro S
    induction S with
    | nil => intro a h1 h2 _; exact ⟨h1, h2⟩
    | cons x r ih =>
      intro a h1 h2 h3
      obtain ⟨x1, x2⟩ := h3 x List.mem_cons_self
      have x3 := t_cnt_le x
      refine ih _ ?_ ?_ (fun y hy => h3 y (List.mem_cons_of_mem _ hy))
      · unfold t_ms
        split
        · dsimp only; omega
        · split <;> exact h1
      · unfold t_ms
        split
        · exact x2
        · split
          · dsimp only; exact Nat.lt_of_le_of_lt Nat.and_le_left h2
          · exact h2
  exact key S (0, 0) (Nat.zero_le _) (by decide) h
section Study
variable {X : Nat × (Nat → Int32)} {R C n : Nat} {kd co nu dc wc : Nat → Nat}
/-- rows that the study's gathering leaves -/
def e_fr (M M' : q_M) (d0 : Nat) : Prop := (∀ k, k < 64 ∨ 87 < k → M' k = M k) ∧ ∀ dr, dr < d0 → M' 65 dr = M 65 dr
theorem e_fr.rf (M : q_M) (d0 : Nat) : e_fr M M d0 := ⟨fun _ _ => rfl, fun _ _ => rfl⟩
theorem e_fr.tr {A B D : q_M} {d0 d1 : Nat} (h : e_fr A B d0) (h2 : e_fr B D d1) (hd : d0 ≤ d1) : e_fr A D d0 := ⟨fun k a => (h2.1 k a).trans (h.1 k a), fun dr hdr => (h2.2 dr (by omega)).trans (h.2 dr hdr)⟩
theorem c_meet (hw : b_wf R C n kd co nu dc wc) {d : Nat} {M : q_M} {K : q_M → Prop} {S : List (List (Option (List Nat)))} {x : List (Option (List Nat))} (hd : 4 ≤ d) (hb : b_now M R C n kd co nu dc wc) (hn : M 44 1 = nI n) (hx : x.length = n) (hS : S.length < 2 ^ 30) (hSx : ∀ y ∈ S, y.length ≤ n ∧ t_bits y < 2 ^ 30) (hc : ∀ q, some q ∈ x → ∀ c ∈ q, c < R * C) (hxb : t_bits x < 2 ^ 30) (hpk : ∀ dr q, x[dr]? = some (some q) → M 65 dr = nI (g_bits q)) (ho : t_ord nu 0 x < 2 ^ 30) (hu : u_at M n (R * C) co nu S)
    (h : ∀ M', e_fr M M' n → u_at M' n (R * C) co nu (S ++ [x]) → K M') : q_Cv X d 32 [.ref 64, .int (nI (t_bits x)), .int (nI (t_cnt x)), .int (nI (t_ord nu 0 x))] M K := by
  have hn3 := hw.2.2.1
  have hcx := t_cnt_le x
  obtain ⟨u1, u2, u3⟩ := hu
  obtain ⟨m1, m2⟩ := t_ms_lt S hSx
  have efold : (S ++ [x]).foldl t_ms (0, 0) = t_ms (S.foldl t_ms (0, 0)) x := by rw [List.foldl_append]; rfl
  generalize hms : S.foldl t_ms (0, 0) = ms at u1 u2 m1 m2 efold
  -- with the new most and shut, the family is noted
  have go : ∀ M1 : q_M, (∀ k, k ≠ 64 → M1 k = M k) → M1 64 0 = nI (t_ms ms x).1 → M1 64 1 = nI (t_ms ms x).2 → ((nI (t_cnt x) ≤ 0) → K M1) ∧ ((¬ nI (t_cnt x) ≤ 0) → (((¬ nI (t_cnt x) = M 44 1) → K M1) ∧ ((nI (t_cnt x) = M 44 1) → q_Ci X (d - 1) 87 [.int (nI (t_ord nu 0 x)), .int (nI (t_cnt x))] M1 (fun r M5 => q_Cv X (d - 1) 33 [.ref 64, .int (nI (t_bits x)), .int r] M5 (fun M7 => K M7))))) := by
    intro M1 g1 g2 g3
    have none_ : t_fam n x = none → K M1 := by
      intro q
      refine h M1 ⟨fun k hk => g1 k (by omega), fun dr hdr => by rw [g1 65 (by decide)]⟩ ⟨by rw [g2, efold], by rw [g3, efold], fun p hp => ?_⟩
      rw [t_F_push, q]
      have := u3 p hp
      unfold s_p at this ⊢
      rw [g1 66 (by decide), g1 67 (by decide), g1 (69 + p) (by omega), g1 (79 + p) (by omega)]
      simpa using this
    rw [show (0 : Int32) = nI 0 from rfl, q_le (by omega) (by omega), hn, q_eq (by omega) (by omega)]
    refine ⟨fun q => none_ (by unfold t_fam; rw [if_neg (by omega)]), fun q => ⟨fun q2 => none_ (by unfold t_fam; rw [if_neg (by omega)]), fun q2 => ?_⟩⟩
    have hfam : t_fam n x = some (x.filterMap id) := by unfold t_fam; rw [if_pos ⟨by omega, q2⟩]
    obtain ⟨t1, t2, t3⟩ := t_full (show t_cnt x = x.length by omega)
    have hb1 : b_now M1 R C n kd co nu dc wc := hb.eq (fun k a b => g1 k (by omega))
    rw [q2]
    have h9 := o_en9 hn3
    refine c_placeOfOrder (by omega) hn3 (fun p p1 p2 p3 => ?_) (fun pno => ?_)
    · have ep : t_ord nu 0 x = o_at p := (q_eq (by omega) (by have := o_lt (show p < 9 by omega); omega)).mp p3
      have hlen : (t_F n nu p S).length ≤ S.length := by
        unfold t_F
        exact Nat.le_trans (List.length_filterMap_le _ _) (List.length_filter_le _ _)
      rw [← t3]
      have hsp : s_p M1 (R * C) co p (t_F n nu p S) := by
        have := u3 p (by omega)
        unfold s_p at this ⊢
        rw [g1 66 (by decide), g1 67 (by decide), g1 (69 + p) (by omega), g1 (79 + p) (by omega)]
        exact this
      refine c_note hw (p := p) (F := t_F n nu p S) (f := x.filterMap id) (by omega) hb1 (by rw [g1 44 (by decide)]; exact hn) (by omega) (by omega) (fun q hq => ?_) (fun dr q hq => by rw [g1 65 (by decide)]; exact hpk dr q (t1 dr q hq)) hsp (by omega) (fun g hg => ?_) (fun M7 f7 s7 => ?_)
      · obtain ⟨y, hy, e⟩ := List.mem_filterMap.mp hq
        have e' : y = some q := e
        rw [e'] at hy
        exact hc q hy
      · unfold t_F at hg
        obtain ⟨y, hy, e⟩ := List.mem_filterMap.mp hg
        have hyS := (List.mem_filter.mp hy).1
        unfold t_fam at e
        split at e
        next hh =>
          cases e
          have := (hSx y hyS).1
          exact Nat.le_trans (List.length_filterMap_le _ _) (by omega)
        next => cases e
      · refine h M7 ⟨fun k hk => by rw [f7.1 k (by omega) (by omega) (by omega) (by omega)]; exact g1 k (by omega), fun dr hdr => by rw [f7.1 65 (by omega) (by omega) (by omega) (by omega), g1 65 (by decide)]⟩ ⟨by rw [f7.1 64 (by omega) (by omega) (by omega) (by omega), g2, efold], by rw [f7.1 64 (by omega) (by omega) (by omega) (by omega), g3, efold], fun p' hp' => ?_⟩
        rw [t_F_push, hfam]
        by_cases e : p' = p
        · subst e
          rw [if_pos (by unfold t_pl; simp [p1, p2, ep])]
          exact s7
        · have hne : t_pl n nu p' x = false := by
            unfold t_pl
            by_cases c1 : o_st n ≤ p'
            · by_cases c2 : p' < o_en n
              · have : ¬ t_ord nu 0 x = o_at p' := fun c3 => e (o_inj hn3 c1 c2 p1 p2 (by rw [← c3, ep]))
                simp [this]
              · simp [c2]
            · simp [c1]
          rw [hne]
          have := u3 p' hp'
          unfold s_p at this ⊢
          rw [f7.2.1 p' e, f7.2.2 p' e, f7.1 (69 + p') (by omega) (by omega) (by omega) (by omega), f7.1 (79 + p') (by omega) (by omega) (by omega) (by omega), g1 66 (by decide), g1 67 (by decide), g1 (69 + p') (by omega), g1 (79 + p') (by omega)]
          simpa using this
    · refine vc33 ⟨fun g => absurd g (by decide), fun _ => ?_⟩
      refine h M1 ⟨fun k hk => g1 k (by omega), fun dr hdr => by rw [g1 65 (by decide)]⟩ ⟨by rw [g2, efold], by rw [g3, efold], fun p hp => ?_⟩
      have hne : t_pl n nu p x = false := by
        unfold t_pl
        by_cases c1 : o_st n ≤ p
        · by_cases c2 : p < o_en n
          · have : ¬ t_ord nu 0 x = o_at p := fun c3 => pno p c1 c2 (by rw [c3])
            simp [this]
          · simp [c2]
        · simp [c1]
      rw [t_F_push, hne]
      have := u3 p hp
      unfold s_p at this ⊢
      rw [g1 66 (by decide), g1 67 (by decide), g1 (69 + p) (by omega), g1 (79 + p) (by omega)]
      simpa using this
  refine vc32 (by omega) ?_
  rw [u1, u2, n_and, q_le (by omega) (by omega), q_eq (by omega) (by omega)]
  refine ⟨fun a1 => ⟨fun a2 => ?_, fun a2 => ?_⟩, fun a1 => ?_⟩
  · have e1 : t_ms ms x = ms := by unfold t_ms; rw [if_neg (by omega), if_neg (by omega)]
    exact go M (fun _ _ => rfl) (by rw [e1]; exact u1) (by rw [e1]; exact u2)
  · have e1 : t_ms ms x = (ms.1, ms.2 &&& t_bits x) := by unfold t_ms; rw [if_neg (by omega), if_pos a2]
    exact go _ (fun k hk => q_set_n hk) (by rw [q_set_ap, if_neg (by omega), e1]; exact u1) (by rw [q_set_ap, if_pos ⟨rfl, rfl⟩, e1])
  · have e1 : t_ms ms x = (t_cnt x, t_bits x) := by unfold t_ms; rw [if_pos (by omega)]
    exact go _ (fun k hk => by rw [q_set_n hk, q_set_n hk]) (by rw [q_set_ap, if_neg (by omega), q_set_ap, if_pos ⟨rfl, rfl⟩, e1]) (by rw [q_set_ap, if_pos ⟨rfl, rfl⟩, e1])
end Study
