/-! the memory at the start, the addresses, the world of both objects -/
def n_M0 : q_M := fun k => match k with
  | 0 => fun j => if j = 15 ∨ j = 16 then -1 else 0
  | _ + 1 => fun _ => 0
abbrev n_z : Nat → Nat := fun _ => 0
theorem n_inv : Inv 0 n_M0 := by
  refine ⟨0, 0, n_z, fun _ => 0, (0, 0, 0, n_z, n_z, n_z, n_z, n_z, 0, 0, 0, 0, n_z, n_z, fun _ _ => 0), (0, 0, 0, n_z, n_z, n_z, n_z, n_z, 0, 0, 0, 0, n_z, n_z, fun _ _ => 0), false, ?_, ?_, ?_⟩
  · refine ⟨by decide, fun j h => absurd h (Nat.not_lt_zero j), by decide, by decide, Nat.le_refl 0, ?_, fun q => absurd q (by decide)⟩
    refine ⟨⟨by decide, by decide, by decide, Or.inl ⟨rfl, rfl, rfl⟩, fun c h => absurd h (Nat.not_lt_zero c), fun c h => absurd h (Nat.not_lt_zero c), fun c h => absurd h (Nat.not_lt_zero c), fun c h => absurd h (Nat.not_lt_zero c)⟩, by decide, by decide, by decide, fun d h => absurd h (Nat.not_lt_zero d), by decide, fun d h => absurd h (Nat.not_lt_zero d), fun d _ => ⟨(Nat.zero_le 10 : n_z d ≤ 10), fun j h => absurd h (Nat.not_lt_zero j)⟩⟩
  · refine ⟨by decide, fun j h => absurd h (Nat.not_lt_zero j), fun j _ _ => rfl, by decide, Or.inl (by decide), ?_, Or.inl (by decide), fun q => absurd q (by decide), by decide, fun q => absurd q (by decide)⟩
    refine ⟨⟨by decide, by decide, by decide, by decide, by decide, fun c h => absurd h (Nat.not_lt_zero c), fun c h => absurd h (Nat.not_lt_zero c)⟩, by decide, by decide, by decide, by decide, fun c h => absurd h (Nat.not_lt_zero c), fun d _ => ⟨show (0 : Int32) = nI 0 by decide, fun c h => absurd h (Nat.not_lt_zero c)⟩⟩
  · refine ⟨by decide, fun j h => absurd h (Nat.not_lt_zero j), fun j _ _ => rfl, ?_, by decide, fun q => absurd q (by decide)⟩
    refine ⟨⟨by decide, by decide, by decide, fun c h => absurd h (Nat.not_lt_zero c)⟩, by decide, fun c h => absurd h (Nat.not_lt_zero c), by decide, fun c h => absurd h (Nat.not_lt_zero c), fun d _ => ⟨show (0 : Int32) = nI 0 by decide, fun c h => absurd h (Nat.not_lt_zero c)⟩⟩
def n_ρ (q0 qm : Nat) (r rm ts : Nat → Nat) : Nat → Nat := fun k => if k < 97 then (if k = 0 then q0 else r (k - 1)) else if k < 1000 then (if k = 97 then qm else rm (k - 98)) else ts (k - 1000)
def n_cA (x : n_Cx) (k : Nat) : ClassId := match q_lay[k]? with
  | some (.inr (.inr (b, _))) => if b = 39 then x.cL else x.cII
  | _ => x.cI
def n_eqE (p q : Nat × va_E) : Prop := p = q ∨ ∃ (a n : Nat) (c : ClassId) (f g : Nat → Option Nat), p = (a, .inl (c, n, .inr (.inr (.inr (.inr f))))) ∧ q = (a, .inl (c, n, .inr (.inr (.inr (.inr g))))) ∧ ∀ j, j < n → f j = g j
theorem n_eqE.to {p q : Nat × va_E} {D : va_G} {cl : List vw_C} {H : Heap} (h : n_eqE p q) (hp : va_at D cl p H) : va_at D cl q H := by
  rcases h with rfl | ⟨a, n, c, f, g, rfl, rfl, h⟩
  · exact hp
  · show H[a]? = some (vp_cell c _)
    rw [vp_cell_q, ← arrV_congr (f := fun j => va_rf (f j)) (fun j hj => by rw [h j hj]), ← vp_cell_q]
    exact hp
def n_ag (x : n_Cx) (q0 qm : Nat) (r rm ts : Nat → Nat) (k : Nat) : Prop := ∃ p, (n_nc x q0 r ++ n_model x qm rm)[k]? = some p ∧ p.1 = n_ρ q0 qm r rm ts k ∧ ∀ sh, q_lay[k]? = some sh → n_eqE p (n_ρ q0 qm r rm ts k, q_en (n_ρ q0 qm r rm ts) (n_cA x) n_M0 k sh)
theorem n_ags {P : Nat → Prop} {n : Nat} (h : ∀ k, k < n → P k) (hn : P n) : ∀ k, k < n + 1 → P k := fun k hk => by
  rcases Nat.lt_or_ge k n with q | q
  · exact h k q
  · rw [show k = n by omega]; exact hn
theorem n_z0 (x : n_Cx) (q0 qm : Nat) (r rm ts : Nat → Nat) : n_ag x q0 qm r rm ts 0 := ⟨_, rfl, rfl, fun sh h => by
  have e : sh = (.inl (10, [some 1, none, some 2, some 3, some 10, some 24, none, some 38, some 44, some 54, some 64, some 88, some 91, some 94, none, none, none])) := Option.some.inj (h.symm.trans rfl)
  subst e
  exact Or.inl rfl⟩
theorem n_z1 (x : n_Cx) (q0 qm : Nat) (r rm ts : Nat → Nat) : n_ag x q0 qm r rm ts 1 := ⟨_, rfl, rfl, fun sh h => by
  have e : sh = (.inr (.inl 48)) := Option.some.inj (h.symm.trans rfl)
  subst e
  exact Or.inl rfl⟩
theorem n_z2 (x : n_Cx) (q0 qm : Nat) (r rm ts : Nat → Nat) : n_ag x q0 qm r rm ts 2 := ⟨_, rfl, rfl, fun sh h => by
  have e : sh = (.inr (.inl 7)) := Option.some.inj (h.symm.trans rfl)
  subst e
  exact Or.inl rfl⟩
theorem n_z3 (x : n_Cx) (q0 qm : Nat) (r rm ts : Nat → Nat) : n_ag x q0 qm r rm ts 3 := ⟨_, rfl, rfl, fun sh h => by
  have e : sh = (.inl (5, [none, none, none, none, none, some 4, some 5, some 6, some 7, some 8, some 9, none])) := Option.some.inj (h.symm.trans rfl)
  subst e
  exact Or.inl rfl⟩
theorem n_z4 (x : n_Cx) (q0 qm : Nat) (r rm ts : Nat → Nat) : n_ag x q0 qm r rm ts 4 := ⟨_, rfl, rfl, fun sh h => by
  have e : sh = (.inr (.inl 30)) := Option.some.inj (h.symm.trans rfl)
  subst e
  exact Or.inl rfl⟩
theorem n_z5 (x : n_Cx) (q0 qm : Nat) (r rm ts : Nat → Nat) : n_ag x q0 qm r rm ts 5 := ⟨_, rfl, rfl, fun sh h => by
  have e : sh = (.inr (.inl 30)) := Option.some.inj (h.symm.trans rfl)
  subst e
  exact Or.inl rfl⟩
theorem n_z6 (x : n_Cx) (q0 qm : Nat) (r rm ts : Nat → Nat) : n_ag x q0 qm r rm ts 6 := ⟨_, rfl, rfl, fun sh h => by
  have e : sh = (.inr (.inl 30)) := Option.some.inj (h.symm.trans rfl)
  subst e
  exact Or.inl rfl⟩
theorem n_z7 (x : n_Cx) (q0 qm : Nat) (r rm ts : Nat → Nat) : n_ag x q0 qm r rm ts 7 := ⟨_, rfl, rfl, fun sh h => by
  have e : sh = (.inr (.inl 3)) := Option.some.inj (h.symm.trans rfl)
  subst e
  exact Or.inl rfl⟩
theorem n_z8 (x : n_Cx) (q0 qm : Nat) (r rm ts : Nat → Nat) : n_ag x q0 qm r rm ts 8 := ⟨_, rfl, rfl, fun sh h => by
  have e : sh = (.inr (.inl 3)) := Option.some.inj (h.symm.trans rfl)
  subst e
  exact Or.inl rfl⟩
theorem n_z9 (x : n_Cx) (q0 qm : Nat) (r rm ts : Nat → Nat) : n_ag x q0 qm r rm ts 9 := ⟨_, rfl, rfl, fun sh h => by
  have e : sh = (.inr (.inl 30)) := Option.some.inj (h.symm.trans rfl)
  subst e
  exact Or.inl rfl⟩
theorem n_z10 (x : n_Cx) (q0 qm : Nat) (r rm ts : Nat → Nat) : n_ag x q0 qm r rm ts 10 := ⟨_, rfl, rfl, fun sh h => by
  have e : sh = (.inl (2, [some 11, none, none, none, none, some 18, some 19, some 20])) := Option.some.inj (h.symm.trans rfl)
  subst e
  exact Or.inl rfl⟩
theorem n_z11 (x : n_Cx) (q0 qm : Nat) (r rm ts : Nat → Nat) : n_ag x q0 qm r rm ts 11 := ⟨_, rfl, rfl, fun sh h => by
  have e : sh = (.inl (5, [none, none, none, none, none, some 12, some 13, some 14, some 15, some 16, some 17, none])) := Option.some.inj (h.symm.trans rfl)
  subst e
  exact Or.inl rfl⟩
theorem n_z12 (x : n_Cx) (q0 qm : Nat) (r rm ts : Nat → Nat) : n_ag x q0 qm r rm ts 12 := ⟨_, rfl, rfl, fun sh h => by
  have e : sh = (.inr (.inl 30)) := Option.some.inj (h.symm.trans rfl)
  subst e
  exact Or.inl rfl⟩
theorem n_z13 (x : n_Cx) (q0 qm : Nat) (r rm ts : Nat → Nat) : n_ag x q0 qm r rm ts 13 := ⟨_, rfl, rfl, fun sh h => by
  have e : sh = (.inr (.inl 30)) := Option.some.inj (h.symm.trans rfl)
  subst e
  exact Or.inl rfl⟩
theorem n_z14 (x : n_Cx) (q0 qm : Nat) (r rm ts : Nat → Nat) : n_ag x q0 qm r rm ts 14 := ⟨_, rfl, rfl, fun sh h => by
  have e : sh = (.inr (.inl 30)) := Option.some.inj (h.symm.trans rfl)
  subst e
  exact Or.inl rfl⟩
theorem n_z15 (x : n_Cx) (q0 qm : Nat) (r rm ts : Nat → Nat) : n_ag x q0 qm r rm ts 15 := ⟨_, rfl, rfl, fun sh h => by
  have e : sh = (.inr (.inl 3)) := Option.some.inj (h.symm.trans rfl)
  subst e
  exact Or.inl rfl⟩
theorem n_z16 (x : n_Cx) (q0 qm : Nat) (r rm ts : Nat → Nat) : n_ag x q0 qm r rm ts 16 := ⟨_, rfl, rfl, fun sh h => by
  have e : sh = (.inr (.inl 3)) := Option.some.inj (h.symm.trans rfl)
  subst e
  exact Or.inl rfl⟩
theorem n_z17 (x : n_Cx) (q0 qm : Nat) (r rm ts : Nat → Nat) : n_ag x q0 qm r rm ts 17 := ⟨_, rfl, rfl, fun sh h => by
  have e : sh = (.inr (.inl 30)) := Option.some.inj (h.symm.trans rfl)
  subst e
  exact Or.inl rfl⟩
theorem n_z18 (x : n_Cx) (q0 qm : Nat) (r rm ts : Nat → Nat) : n_ag x q0 qm r rm ts 18 := ⟨_, rfl, rfl, fun sh h => by
  have e : sh = (.inr (.inl 4)) := Option.some.inj (h.symm.trans rfl)
  subst e
  exact Or.inl rfl⟩
theorem n_z19 (x : n_Cx) (q0 qm : Nat) (r rm ts : Nat → Nat) : n_ag x q0 qm r rm ts 19 := ⟨_, rfl, rfl, fun sh h => by
  have e : sh = (.inr (.inl 3)) := Option.some.inj (h.symm.trans rfl)
  subst e
  exact Or.inl rfl⟩
theorem n_z20 (x : n_Cx) (q0 qm : Nat) (r rm ts : Nat → Nat) : n_ag x q0 qm r rm ts 20 := ⟨_, rfl, rfl, fun sh h => by
  have e : sh = (.inr (.inr (21, 3))) := Option.some.inj (h.symm.trans rfl)
  subst e
  exact Or.inr ⟨_, 3, _, _, _, rfl, rfl, fun j hj => by rcases (show j = 0 ∨ j = 1 ∨ j = 2 by omega) with rfl | rfl | rfl <;> rfl⟩⟩
theorem n_z21 (x : n_Cx) (q0 qm : Nat) (r rm ts : Nat → Nat) : n_ag x q0 qm r rm ts 21 := ⟨_, rfl, rfl, fun sh h => by
  have e : sh = (.inr (.inl 10)) := Option.some.inj (h.symm.trans rfl)
  subst e
  exact Or.inl rfl⟩
theorem n_z22 (x : n_Cx) (q0 qm : Nat) (r rm ts : Nat → Nat) : n_ag x q0 qm r rm ts 22 := ⟨_, rfl, rfl, fun sh h => by
  have e : sh = (.inr (.inl 10)) := Option.some.inj (h.symm.trans rfl)
  subst e
  exact Or.inl rfl⟩
theorem n_z23 (x : n_Cx) (q0 qm : Nat) (r rm ts : Nat → Nat) : n_ag x q0 qm r rm ts 23 := ⟨_, rfl, rfl, fun sh h => by
  have e : sh = (.inr (.inl 10)) := Option.some.inj (h.symm.trans rfl)
  subst e
  exact Or.inl rfl⟩
theorem n_z24 (x : n_Cx) (q0 qm : Nat) (r rm ts : Nat → Nat) : n_ag x q0 qm r rm ts 24 := ⟨_, rfl, rfl, fun sh h => by
  have e : sh = (.inl (2, [some 25, none, none, none, none, some 32, some 33, some 34])) := Option.some.inj (h.symm.trans rfl)
  subst e
  exact Or.inl rfl⟩
theorem n_z25 (x : n_Cx) (q0 qm : Nat) (r rm ts : Nat → Nat) : n_ag x q0 qm r rm ts 25 := ⟨_, rfl, rfl, fun sh h => by
  have e : sh = (.inl (5, [none, none, none, none, none, some 26, some 27, some 28, some 29, some 30, some 31, none])) := Option.some.inj (h.symm.trans rfl)
  subst e
  exact Or.inl rfl⟩
theorem n_z26 (x : n_Cx) (q0 qm : Nat) (r rm ts : Nat → Nat) : n_ag x q0 qm r rm ts 26 := ⟨_, rfl, rfl, fun sh h => by
  have e : sh = (.inr (.inl 30)) := Option.some.inj (h.symm.trans rfl)
  subst e
  exact Or.inl rfl⟩
theorem n_z27 (x : n_Cx) (q0 qm : Nat) (r rm ts : Nat → Nat) : n_ag x q0 qm r rm ts 27 := ⟨_, rfl, rfl, fun sh h => by
  have e : sh = (.inr (.inl 30)) := Option.some.inj (h.symm.trans rfl)
  subst e
  exact Or.inl rfl⟩
theorem n_z28 (x : n_Cx) (q0 qm : Nat) (r rm ts : Nat → Nat) : n_ag x q0 qm r rm ts 28 := ⟨_, rfl, rfl, fun sh h => by
  have e : sh = (.inr (.inl 30)) := Option.some.inj (h.symm.trans rfl)
  subst e
  exact Or.inl rfl⟩
theorem n_z29 (x : n_Cx) (q0 qm : Nat) (r rm ts : Nat → Nat) : n_ag x q0 qm r rm ts 29 := ⟨_, rfl, rfl, fun sh h => by
  have e : sh = (.inr (.inl 3)) := Option.some.inj (h.symm.trans rfl)
  subst e
  exact Or.inl rfl⟩
theorem n_z30 (x : n_Cx) (q0 qm : Nat) (r rm ts : Nat → Nat) : n_ag x q0 qm r rm ts 30 := ⟨_, rfl, rfl, fun sh h => by
  have e : sh = (.inr (.inl 3)) := Option.some.inj (h.symm.trans rfl)
  subst e
  exact Or.inl rfl⟩
theorem n_z31 (x : n_Cx) (q0 qm : Nat) (r rm ts : Nat → Nat) : n_ag x q0 qm r rm ts 31 := ⟨_, rfl, rfl, fun sh h => by
  have e : sh = (.inr (.inl 30)) := Option.some.inj (h.symm.trans rfl)
  subst e
  exact Or.inl rfl⟩
theorem n_z32 (x : n_Cx) (q0 qm : Nat) (r rm ts : Nat → Nat) : n_ag x q0 qm r rm ts 32 := ⟨_, rfl, rfl, fun sh h => by
  have e : sh = (.inr (.inl 4)) := Option.some.inj (h.symm.trans rfl)
  subst e
  exact Or.inl rfl⟩
theorem n_z33 (x : n_Cx) (q0 qm : Nat) (r rm ts : Nat → Nat) : n_ag x q0 qm r rm ts 33 := ⟨_, rfl, rfl, fun sh h => by
  have e : sh = (.inr (.inl 3)) := Option.some.inj (h.symm.trans rfl)
  subst e
  exact Or.inl rfl⟩
theorem n_z34 (x : n_Cx) (q0 qm : Nat) (r rm ts : Nat → Nat) : n_ag x q0 qm r rm ts 34 := ⟨_, rfl, rfl, fun sh h => by
  have e : sh = (.inr (.inr (35, 3))) := Option.some.inj (h.symm.trans rfl)
  subst e
  exact Or.inr ⟨_, 3, _, _, _, rfl, rfl, fun j hj => by rcases (show j = 0 ∨ j = 1 ∨ j = 2 by omega) with rfl | rfl | rfl <;> rfl⟩⟩
theorem n_z35 (x : n_Cx) (q0 qm : Nat) (r rm ts : Nat → Nat) : n_ag x q0 qm r rm ts 35 := ⟨_, rfl, rfl, fun sh h => by
  have e : sh = (.inr (.inl 10)) := Option.some.inj (h.symm.trans rfl)
  subst e
  exact Or.inl rfl⟩
theorem n_z36 (x : n_Cx) (q0 qm : Nat) (r rm ts : Nat → Nat) : n_ag x q0 qm r rm ts 36 := ⟨_, rfl, rfl, fun sh h => by
  have e : sh = (.inr (.inl 10)) := Option.some.inj (h.symm.trans rfl)
  subst e
  exact Or.inl rfl⟩
theorem n_z37 (x : n_Cx) (q0 qm : Nat) (r rm ts : Nat → Nat) : n_ag x q0 qm r rm ts 37 := ⟨_, rfl, rfl, fun sh h => by
  have e : sh = (.inr (.inl 10)) := Option.some.inj (h.symm.trans rfl)
  subst e
  exact Or.inl rfl⟩
theorem n_z38 (x : n_Cx) (q0 qm : Nat) (r rm ts : Nat → Nat) : n_ag x q0 qm r rm ts 38 := ⟨_, rfl, rfl, fun sh h => by
  have e : sh = (.inr (.inr (39, 5))) := Option.some.inj (h.symm.trans rfl)
  subst e
  exact Or.inr ⟨_, 5, _, _, _, rfl, rfl, fun j hj => by rcases (show j = 0 ∨ j = 1 ∨ j = 2 ∨ j = 3 ∨ j = 4 by omega) with rfl | rfl | rfl | rfl | rfl <;> rfl⟩⟩
theorem n_z39 (x : n_Cx) (q0 qm : Nat) (r rm ts : Nat → Nat) : n_ag x q0 qm r rm ts 39 := ⟨_, rfl, rfl, fun sh h => by
  have e : sh = (.inl (4, [])) := Option.some.inj (h.symm.trans rfl)
  subst e
  exact Or.inl rfl⟩
theorem n_z40 (x : n_Cx) (q0 qm : Nat) (r rm ts : Nat → Nat) : n_ag x q0 qm r rm ts 40 := ⟨_, rfl, rfl, fun sh h => by
  have e : sh = (.inl (8, [])) := Option.some.inj (h.symm.trans rfl)
  subst e
  exact Or.inl rfl⟩
theorem n_z41 (x : n_Cx) (q0 qm : Nat) (r rm ts : Nat → Nat) : n_ag x q0 qm r rm ts 41 := ⟨_, rfl, rfl, fun sh h => by
  have e : sh = (.inl (3, [])) := Option.some.inj (h.symm.trans rfl)
  subst e
  exact Or.inl rfl⟩
theorem n_z42 (x : n_Cx) (q0 qm : Nat) (r rm ts : Nat → Nat) : n_ag x q0 qm r rm ts 42 := ⟨_, rfl, rfl, fun sh h => by
  have e : sh = (.inl (0, [])) := Option.some.inj (h.symm.trans rfl)
  subst e
  exact Or.inl rfl⟩
theorem n_z43 (x : n_Cx) (q0 qm : Nat) (r rm ts : Nat → Nat) : n_ag x q0 qm r rm ts 43 := ⟨_, rfl, rfl, fun sh h => by
  have e : sh = (.inl (7, [])) := Option.some.inj (h.symm.trans rfl)
  subst e
  exact Or.inl rfl⟩
theorem n_z44 (x : n_Cx) (q0 qm : Nat) (r rm ts : Nat → Nat) : n_ag x q0 qm r rm ts 44 := ⟨_, rfl, rfl, fun sh h => by
  have e : sh = (.inl (9, [some 11, none, some 45, some 46, some 50])) := Option.some.inj (h.symm.trans rfl)
  subst e
  exact Or.inl rfl⟩
theorem n_z45 (x : n_Cx) (q0 qm : Nat) (r rm ts : Nat → Nat) : n_ag x q0 qm r rm ts 45 := ⟨_, rfl, rfl, fun sh h => by
  have e : sh = (.inr (.inl 3)) := Option.some.inj (h.symm.trans rfl)
  subst e
  exact Or.inl rfl⟩
theorem n_z46 (x : n_Cx) (q0 qm : Nat) (r rm ts : Nat → Nat) : n_ag x q0 qm r rm ts 46 := ⟨_, rfl, rfl, fun sh h => by
  have e : sh = (.inr (.inr (47, 3))) := Option.some.inj (h.symm.trans rfl)
  subst e
  exact Or.inr ⟨_, 3, _, _, _, rfl, rfl, fun j hj => by rcases (show j = 0 ∨ j = 1 ∨ j = 2 by omega) with rfl | rfl | rfl <;> rfl⟩⟩
theorem n_z47 (x : n_Cx) (q0 qm : Nat) (r rm ts : Nat → Nat) : n_ag x q0 qm r rm ts 47 := ⟨_, rfl, rfl, fun sh h => by
  have e : sh = (.inr (.inl 126)) := Option.some.inj (h.symm.trans rfl)
  subst e
  exact Or.inl rfl⟩
theorem n_z48 (x : n_Cx) (q0 qm : Nat) (r rm ts : Nat → Nat) : n_ag x q0 qm r rm ts 48 := ⟨_, rfl, rfl, fun sh h => by
  have e : sh = (.inr (.inl 126)) := Option.some.inj (h.symm.trans rfl)
  subst e
  exact Or.inl rfl⟩
theorem n_z49 (x : n_Cx) (q0 qm : Nat) (r rm ts : Nat → Nat) : n_ag x q0 qm r rm ts 49 := ⟨_, rfl, rfl, fun sh h => by
  have e : sh = (.inr (.inl 126)) := Option.some.inj (h.symm.trans rfl)
  subst e
  exact Or.inl rfl⟩
theorem n_z50 (x : n_Cx) (q0 qm : Nat) (r rm ts : Nat → Nat) : n_ag x q0 qm r rm ts 50 := ⟨_, rfl, rfl, fun sh h => by
  have e : sh = (.inr (.inr (51, 3))) := Option.some.inj (h.symm.trans rfl)
  subst e
  exact Or.inr ⟨_, 3, _, _, _, rfl, rfl, fun j hj => by rcases (show j = 0 ∨ j = 1 ∨ j = 2 by omega) with rfl | rfl | rfl <;> rfl⟩⟩
theorem n_z51 (x : n_Cx) (q0 qm : Nat) (r rm ts : Nat → Nat) : n_ag x q0 qm r rm ts 51 := ⟨_, rfl, rfl, fun sh h => by
  have e : sh = (.inr (.inl 126)) := Option.some.inj (h.symm.trans rfl)
  subst e
  exact Or.inl rfl⟩
theorem n_z52 (x : n_Cx) (q0 qm : Nat) (r rm ts : Nat → Nat) : n_ag x q0 qm r rm ts 52 := ⟨_, rfl, rfl, fun sh h => by
  have e : sh = (.inr (.inl 126)) := Option.some.inj (h.symm.trans rfl)
  subst e
  exact Or.inl rfl⟩
theorem n_z53 (x : n_Cx) (q0 qm : Nat) (r rm ts : Nat → Nat) : n_ag x q0 qm r rm ts 53 := ⟨_, rfl, rfl, fun sh h => by
  have e : sh = (.inr (.inl 126)) := Option.some.inj (h.symm.trans rfl)
  subst e
  exact Or.inl rfl⟩
theorem n_z54 (x : n_Cx) (q0 qm : Nat) (r rm ts : Nat → Nat) : n_ag x q0 qm r rm ts 54 := ⟨_, rfl, rfl, fun sh h => by
  have e : sh = (.inl (9, [some 11, none, some 55, some 56, some 60])) := Option.some.inj (h.symm.trans rfl)
  subst e
  exact Or.inl rfl⟩
theorem n_z55 (x : n_Cx) (q0 qm : Nat) (r rm ts : Nat → Nat) : n_ag x q0 qm r rm ts 55 := ⟨_, rfl, rfl, fun sh h => by
  have e : sh = (.inr (.inl 3)) := Option.some.inj (h.symm.trans rfl)
  subst e
  exact Or.inl rfl⟩
theorem n_z56 (x : n_Cx) (q0 qm : Nat) (r rm ts : Nat → Nat) : n_ag x q0 qm r rm ts 56 := ⟨_, rfl, rfl, fun sh h => by
  have e : sh = (.inr (.inr (57, 3))) := Option.some.inj (h.symm.trans rfl)
  subst e
  exact Or.inr ⟨_, 3, _, _, _, rfl, rfl, fun j hj => by rcases (show j = 0 ∨ j = 1 ∨ j = 2 by omega) with rfl | rfl | rfl <;> rfl⟩⟩
theorem n_z57 (x : n_Cx) (q0 qm : Nat) (r rm ts : Nat → Nat) : n_ag x q0 qm r rm ts 57 := ⟨_, rfl, rfl, fun sh h => by
  have e : sh = (.inr (.inl 126)) := Option.some.inj (h.symm.trans rfl)
  subst e
  exact Or.inl rfl⟩
theorem n_z58 (x : n_Cx) (q0 qm : Nat) (r rm ts : Nat → Nat) : n_ag x q0 qm r rm ts 58 := ⟨_, rfl, rfl, fun sh h => by
  have e : sh = (.inr (.inl 126)) := Option.some.inj (h.symm.trans rfl)
  subst e
  exact Or.inl rfl⟩
theorem n_z59 (x : n_Cx) (q0 qm : Nat) (r rm ts : Nat → Nat) : n_ag x q0 qm r rm ts 59 := ⟨_, rfl, rfl, fun sh h => by
  have e : sh = (.inr (.inl 126)) := Option.some.inj (h.symm.trans rfl)
  subst e
  exact Or.inl rfl⟩
theorem n_z60 (x : n_Cx) (q0 qm : Nat) (r rm ts : Nat → Nat) : n_ag x q0 qm r rm ts 60 := ⟨_, rfl, rfl, fun sh h => by
  have e : sh = (.inr (.inr (61, 3))) := Option.some.inj (h.symm.trans rfl)
  subst e
  exact Or.inr ⟨_, 3, _, _, _, rfl, rfl, fun j hj => by rcases (show j = 0 ∨ j = 1 ∨ j = 2 by omega) with rfl | rfl | rfl <;> rfl⟩⟩
theorem n_z61 (x : n_Cx) (q0 qm : Nat) (r rm ts : Nat → Nat) : n_ag x q0 qm r rm ts 61 := ⟨_, rfl, rfl, fun sh h => by
  have e : sh = (.inr (.inl 126)) := Option.some.inj (h.symm.trans rfl)
  subst e
  exact Or.inl rfl⟩
theorem n_z62 (x : n_Cx) (q0 qm : Nat) (r rm ts : Nat → Nat) : n_ag x q0 qm r rm ts 62 := ⟨_, rfl, rfl, fun sh h => by
  have e : sh = (.inr (.inl 126)) := Option.some.inj (h.symm.trans rfl)
  subst e
  exact Or.inl rfl⟩
theorem n_z63 (x : n_Cx) (q0 qm : Nat) (r rm ts : Nat → Nat) : n_ag x q0 qm r rm ts 63 := ⟨_, rfl, rfl, fun sh h => by
  have e : sh = (.inr (.inl 126)) := Option.some.inj (h.symm.trans rfl)
  subst e
  exact Or.inl rfl⟩
theorem n_z64 (x : n_Cx) (q0 qm : Nat) (r rm ts : Nat → Nat) : n_ag x q0 qm r rm ts 64 := ⟨_, rfl, rfl, fun sh h => by
  have e : sh = (.inl (6, [none, none, some 11, some 44, some 65, some 66, some 67, some 68, some 78])) := Option.some.inj (h.symm.trans rfl)
  subst e
  exact Or.inl rfl⟩
theorem n_z65 (x : n_Cx) (q0 qm : Nat) (r rm ts : Nat → Nat) : n_ag x q0 qm r rm ts 65 := ⟨_, rfl, rfl, fun sh h => by
  have e : sh = (.inr (.inl 3)) := Option.some.inj (h.symm.trans rfl)
  subst e
  exact Or.inl rfl⟩
theorem n_z66 (x : n_Cx) (q0 qm : Nat) (r rm ts : Nat → Nat) : n_ag x q0 qm r rm ts 66 := ⟨_, rfl, rfl, fun sh h => by
  have e : sh = (.inr (.inl 9)) := Option.some.inj (h.symm.trans rfl)
  subst e
  exact Or.inl rfl⟩
theorem n_z67 (x : n_Cx) (q0 qm : Nat) (r rm ts : Nat → Nat) : n_ag x q0 qm r rm ts 67 := ⟨_, rfl, rfl, fun sh h => by
  have e : sh = (.inr (.inl 9)) := Option.some.inj (h.symm.trans rfl)
  subst e
  exact Or.inl rfl⟩
theorem n_z68 (x : n_Cx) (q0 qm : Nat) (r rm ts : Nat → Nat) : n_ag x q0 qm r rm ts 68 := ⟨_, rfl, rfl, fun sh h => by
  have e : sh = (.inr (.inr (69, 9))) := Option.some.inj (h.symm.trans rfl)
  subst e
  exact Or.inr ⟨_, 9, _, _, _, rfl, rfl, fun j hj => by rcases (show j = 0 ∨ j = 1 ∨ j = 2 ∨ j = 3 ∨ j = 4 ∨ j = 5 ∨ j = 6 ∨ j = 7 ∨ j = 8 by omega) with rfl | rfl | rfl | rfl | rfl | rfl | rfl | rfl | rfl <;> rfl⟩⟩
theorem n_z69 (x : n_Cx) (q0 qm : Nat) (r rm ts : Nat → Nat) : n_ag x q0 qm r rm ts 69 := ⟨_, rfl, rfl, fun sh h => by
  have e : sh = (.inr (.inl 30)) := Option.some.inj (h.symm.trans rfl)
  subst e
  exact Or.inl rfl⟩
theorem n_z70 (x : n_Cx) (q0 qm : Nat) (r rm ts : Nat → Nat) : n_ag x q0 qm r rm ts 70 := ⟨_, rfl, rfl, fun sh h => by
  have e : sh = (.inr (.inl 30)) := Option.some.inj (h.symm.trans rfl)
  subst e
  exact Or.inl rfl⟩
theorem n_z71 (x : n_Cx) (q0 qm : Nat) (r rm ts : Nat → Nat) : n_ag x q0 qm r rm ts 71 := ⟨_, rfl, rfl, fun sh h => by
  have e : sh = (.inr (.inl 30)) := Option.some.inj (h.symm.trans rfl)
  subst e
  exact Or.inl rfl⟩
theorem n_z72 (x : n_Cx) (q0 qm : Nat) (r rm ts : Nat → Nat) : n_ag x q0 qm r rm ts 72 := ⟨_, rfl, rfl, fun sh h => by
  have e : sh = (.inr (.inl 30)) := Option.some.inj (h.symm.trans rfl)
  subst e
  exact Or.inl rfl⟩
theorem n_z73 (x : n_Cx) (q0 qm : Nat) (r rm ts : Nat → Nat) : n_ag x q0 qm r rm ts 73 := ⟨_, rfl, rfl, fun sh h => by
  have e : sh = (.inr (.inl 30)) := Option.some.inj (h.symm.trans rfl)
  subst e
  exact Or.inl rfl⟩
theorem n_z74 (x : n_Cx) (q0 qm : Nat) (r rm ts : Nat → Nat) : n_ag x q0 qm r rm ts 74 := ⟨_, rfl, rfl, fun sh h => by
  have e : sh = (.inr (.inl 30)) := Option.some.inj (h.symm.trans rfl)
  subst e
  exact Or.inl rfl⟩
theorem n_z75 (x : n_Cx) (q0 qm : Nat) (r rm ts : Nat → Nat) : n_ag x q0 qm r rm ts 75 := ⟨_, rfl, rfl, fun sh h => by
  have e : sh = (.inr (.inl 30)) := Option.some.inj (h.symm.trans rfl)
  subst e
  exact Or.inl rfl⟩
theorem n_z76 (x : n_Cx) (q0 qm : Nat) (r rm ts : Nat → Nat) : n_ag x q0 qm r rm ts 76 := ⟨_, rfl, rfl, fun sh h => by
  have e : sh = (.inr (.inl 30)) := Option.some.inj (h.symm.trans rfl)
  subst e
  exact Or.inl rfl⟩
theorem n_z77 (x : n_Cx) (q0 qm : Nat) (r rm ts : Nat → Nat) : n_ag x q0 qm r rm ts 77 := ⟨_, rfl, rfl, fun sh h => by
  have e : sh = (.inr (.inl 30)) := Option.some.inj (h.symm.trans rfl)
  subst e
  exact Or.inl rfl⟩
theorem n_z78 (x : n_Cx) (q0 qm : Nat) (r rm ts : Nat → Nat) : n_ag x q0 qm r rm ts 78 := ⟨_, rfl, rfl, fun sh h => by
  have e : sh = (.inr (.inr (79, 9))) := Option.some.inj (h.symm.trans rfl)
  subst e
  exact Or.inr ⟨_, 9, _, _, _, rfl, rfl, fun j hj => by rcases (show j = 0 ∨ j = 1 ∨ j = 2 ∨ j = 3 ∨ j = 4 ∨ j = 5 ∨ j = 6 ∨ j = 7 ∨ j = 8 by omega) with rfl | rfl | rfl | rfl | rfl | rfl | rfl | rfl | rfl <;> rfl⟩⟩
theorem n_z79 (x : n_Cx) (q0 qm : Nat) (r rm ts : Nat → Nat) : n_ag x q0 qm r rm ts 79 := ⟨_, rfl, rfl, fun sh h => by
  have e : sh = (.inr (.inl 30)) := Option.some.inj (h.symm.trans rfl)
  subst e
  exact Or.inl rfl⟩
theorem n_z80 (x : n_Cx) (q0 qm : Nat) (r rm ts : Nat → Nat) : n_ag x q0 qm r rm ts 80 := ⟨_, rfl, rfl, fun sh h => by
  have e : sh = (.inr (.inl 30)) := Option.some.inj (h.symm.trans rfl)
  subst e
  exact Or.inl rfl⟩
theorem n_z81 (x : n_Cx) (q0 qm : Nat) (r rm ts : Nat → Nat) : n_ag x q0 qm r rm ts 81 := ⟨_, rfl, rfl, fun sh h => by
  have e : sh = (.inr (.inl 30)) := Option.some.inj (h.symm.trans rfl)
  subst e
  exact Or.inl rfl⟩
theorem n_z82 (x : n_Cx) (q0 qm : Nat) (r rm ts : Nat → Nat) : n_ag x q0 qm r rm ts 82 := ⟨_, rfl, rfl, fun sh h => by
  have e : sh = (.inr (.inl 30)) := Option.some.inj (h.symm.trans rfl)
  subst e
  exact Or.inl rfl⟩
theorem n_z83 (x : n_Cx) (q0 qm : Nat) (r rm ts : Nat → Nat) : n_ag x q0 qm r rm ts 83 := ⟨_, rfl, rfl, fun sh h => by
  have e : sh = (.inr (.inl 30)) := Option.some.inj (h.symm.trans rfl)
  subst e
  exact Or.inl rfl⟩
theorem n_z84 (x : n_Cx) (q0 qm : Nat) (r rm ts : Nat → Nat) : n_ag x q0 qm r rm ts 84 := ⟨_, rfl, rfl, fun sh h => by
  have e : sh = (.inr (.inl 30)) := Option.some.inj (h.symm.trans rfl)
  subst e
  exact Or.inl rfl⟩
theorem n_z85 (x : n_Cx) (q0 qm : Nat) (r rm ts : Nat → Nat) : n_ag x q0 qm r rm ts 85 := ⟨_, rfl, rfl, fun sh h => by
  have e : sh = (.inr (.inl 30)) := Option.some.inj (h.symm.trans rfl)
  subst e
  exact Or.inl rfl⟩
theorem n_z86 (x : n_Cx) (q0 qm : Nat) (r rm ts : Nat → Nat) : n_ag x q0 qm r rm ts 86 := ⟨_, rfl, rfl, fun sh h => by
  have e : sh = (.inr (.inl 30)) := Option.some.inj (h.symm.trans rfl)
  subst e
  exact Or.inl rfl⟩
theorem n_z87 (x : n_Cx) (q0 qm : Nat) (r rm ts : Nat → Nat) : n_ag x q0 qm r rm ts 87 := ⟨_, rfl, rfl, fun sh h => by
  have e : sh = (.inr (.inl 30)) := Option.some.inj (h.symm.trans rfl)
  subst e
  exact Or.inl rfl⟩
theorem n_z88 (x : n_Cx) (q0 qm : Nat) (r rm ts : Nat → Nat) : n_ag x q0 qm r rm ts 88 := ⟨_, rfl, rfl, fun sh h => by
  have e : sh = (.inl (1, [some 89, some 44, some 90, none, none, none])) := Option.some.inj (h.symm.trans rfl)
  subst e
  exact Or.inl rfl⟩
theorem n_z89 (x : n_Cx) (q0 qm : Nat) (r rm ts : Nat → Nat) : n_ag x q0 qm r rm ts 89 := ⟨_, rfl, rfl, fun sh h => by
  have e : sh = (.inr (.inl 3)) := Option.some.inj (h.symm.trans rfl)
  subst e
  exact Or.inl rfl⟩
theorem n_z90 (x : n_Cx) (q0 qm : Nat) (r rm ts : Nat → Nat) : n_ag x q0 qm r rm ts 90 := ⟨_, rfl, rfl, fun sh h => by
  have e : sh = (.inr (.inl 3)) := Option.some.inj (h.symm.trans rfl)
  subst e
  exact Or.inl rfl⟩
theorem n_z91 (x : n_Cx) (q0 qm : Nat) (r rm ts : Nat → Nat) : n_ag x q0 qm r rm ts 91 := ⟨_, rfl, rfl, fun sh h => by
  have e : sh = (.inl (1, [some 92, some 44, some 93, none, none, none])) := Option.some.inj (h.symm.trans rfl)
  subst e
  exact Or.inl rfl⟩
theorem n_z92 (x : n_Cx) (q0 qm : Nat) (r rm ts : Nat → Nat) : n_ag x q0 qm r rm ts 92 := ⟨_, rfl, rfl, fun sh h => by
  have e : sh = (.inr (.inl 3)) := Option.some.inj (h.symm.trans rfl)
  subst e
  exact Or.inl rfl⟩
theorem n_z93 (x : n_Cx) (q0 qm : Nat) (r rm ts : Nat → Nat) : n_ag x q0 qm r rm ts 93 := ⟨_, rfl, rfl, fun sh h => by
  have e : sh = (.inr (.inl 3)) := Option.some.inj (h.symm.trans rfl)
  subst e
  exact Or.inl rfl⟩
theorem n_z94 (x : n_Cx) (q0 qm : Nat) (r rm ts : Nat → Nat) : n_ag x q0 qm r rm ts 94 := ⟨_, rfl, rfl, fun sh h => by
  have e : sh = (.inl (1, [some 95, some 54, some 96, none, none, none])) := Option.some.inj (h.symm.trans rfl)
  subst e
  exact Or.inl rfl⟩
theorem n_z95 (x : n_Cx) (q0 qm : Nat) (r rm ts : Nat → Nat) : n_ag x q0 qm r rm ts 95 := ⟨_, rfl, rfl, fun sh h => by
  have e : sh = (.inr (.inl 3)) := Option.some.inj (h.symm.trans rfl)
  subst e
  exact Or.inl rfl⟩
theorem n_z96 (x : n_Cx) (q0 qm : Nat) (r rm ts : Nat → Nat) : n_ag x q0 qm r rm ts 96 := ⟨_, rfl, rfl, fun sh h => by
  have e : sh = (.inr (.inl 3)) := Option.some.inj (h.symm.trans rfl)
  subst e
  exact Or.inl rfl⟩
theorem n_z97 (x : n_Cx) (q0 qm : Nat) (r rm ts : Nat → Nat) : n_ag x q0 qm r rm ts 97 := ⟨_, rfl, rfl, fun sh h => by
  have e : sh = (.inl (11, [some 98, some 99, some 100, some 101, none, some 102, none, none, none, some 103, some 104, some 105, some 106, some 107, some 108, some 109, some 110, some 111, some 112, some 113, none, none, none, none, none, some 114, some 115, none])) := Option.some.inj (h.symm.trans rfl)
  subst e
  exact Or.inl rfl⟩
theorem n_z98 (x : n_Cx) (q0 qm : Nat) (r rm ts : Nat → Nat) : n_ag x q0 qm r rm ts 98 := ⟨_, rfl, rfl, fun sh h => by
  have e : sh = (.inr (.inl 7)) := Option.some.inj (h.symm.trans rfl)
  subst e
  exact Or.inl rfl⟩
theorem n_z99 (x : n_Cx) (q0 qm : Nat) (r rm ts : Nat → Nat) : n_ag x q0 qm r rm ts 99 := ⟨_, rfl, rfl, fun sh h => by
  have e : sh = (.inr (.inl 135)) := Option.some.inj (h.symm.trans rfl)
  subst e
  exact Or.inl rfl⟩
theorem n_z100 (x : n_Cx) (q0 qm : Nat) (r rm ts : Nat → Nat) : n_ag x q0 qm r rm ts 100 := ⟨_, rfl, rfl, fun sh h => by
  have e : sh = (.inr (.inl 135)) := Option.some.inj (h.symm.trans rfl)
  subst e
  exact Or.inl rfl⟩
theorem n_z101 (x : n_Cx) (q0 qm : Nat) (r rm ts : Nat → Nat) : n_ag x q0 qm r rm ts 101 := ⟨_, rfl, rfl, fun sh h => by
  have e : sh = (.inr (.inl 135)) := Option.some.inj (h.symm.trans rfl)
  subst e
  exact Or.inl rfl⟩
theorem n_z102 (x : n_Cx) (q0 qm : Nat) (r rm ts : Nat → Nat) : n_ag x q0 qm r rm ts 102 := ⟨_, rfl, rfl, fun sh h => by
  have e : sh = (.inr (.inl 48)) := Option.some.inj (h.symm.trans rfl)
  subst e
  exact Or.inl rfl⟩
theorem n_z103 (x : n_Cx) (q0 qm : Nat) (r rm ts : Nat → Nat) : n_ag x q0 qm r rm ts 103 := ⟨_, rfl, rfl, fun sh h => by
  have e : sh = (.inr (.inl 3)) := Option.some.inj (h.symm.trans rfl)
  subst e
  exact Or.inl rfl⟩
theorem n_z104 (x : n_Cx) (q0 qm : Nat) (r rm ts : Nat → Nat) : n_ag x q0 qm r rm ts 104 := ⟨_, rfl, rfl, fun sh h => by
  have e : sh = (.inr (.inl 1200)) := Option.some.inj (h.symm.trans rfl)
  subst e
  exact Or.inl rfl⟩
theorem n_z105 (x : n_Cx) (q0 qm : Nat) (r rm ts : Nat → Nat) : n_ag x q0 qm r rm ts 105 := ⟨_, rfl, rfl, fun sh h => by
  have e : sh = (.inr (.inl 1200)) := Option.some.inj (h.symm.trans rfl)
  subst e
  exact Or.inl rfl⟩
theorem n_z106 (x : n_Cx) (q0 qm : Nat) (r rm ts : Nat → Nat) : n_ag x q0 qm r rm ts 106 := ⟨_, rfl, rfl, fun sh h => by
  have e : sh = (.inr (.inl 1200)) := Option.some.inj (h.symm.trans rfl)
  subst e
  exact Or.inl rfl⟩
theorem n_z107 (x : n_Cx) (q0 qm : Nat) (r rm ts : Nat → Nat) : n_ag x q0 qm r rm ts 107 := ⟨_, rfl, rfl, fun sh h => by
  have e : sh = (.inr (.inl 1200)) := Option.some.inj (h.symm.trans rfl)
  subst e
  exact Or.inl rfl⟩
theorem n_z108 (x : n_Cx) (q0 qm : Nat) (r rm ts : Nat → Nat) : n_ag x q0 qm r rm ts 108 := ⟨_, rfl, rfl, fun sh h => by
  have e : sh = (.inr (.inl 3)) := Option.some.inj (h.symm.trans rfl)
  subst e
  exact Or.inl rfl⟩
theorem n_z109 (x : n_Cx) (q0 qm : Nat) (r rm ts : Nat → Nat) : n_ag x q0 qm r rm ts 109 := ⟨_, rfl, rfl, fun sh h => by
  have e : sh = (.inr (.inl 3)) := Option.some.inj (h.symm.trans rfl)
  subst e
  exact Or.inl rfl⟩
theorem n_z110 (x : n_Cx) (q0 qm : Nat) (r rm ts : Nat → Nat) : n_ag x q0 qm r rm ts 110 := ⟨_, rfl, rfl, fun sh h => by
  have e : sh = (.inr (.inl 3)) := Option.some.inj (h.symm.trans rfl)
  subst e
  exact Or.inl rfl⟩
theorem n_z111 (x : n_Cx) (q0 qm : Nat) (r rm ts : Nat → Nat) : n_ag x q0 qm r rm ts 111 := ⟨_, rfl, rfl, fun sh h => by
  have e : sh = (.inr (.inl 3)) := Option.some.inj (h.symm.trans rfl)
  subst e
  exact Or.inl rfl⟩
theorem n_z112 (x : n_Cx) (q0 qm : Nat) (r rm ts : Nat → Nat) : n_ag x q0 qm r rm ts 112 := ⟨_, rfl, rfl, fun sh h => by
  have e : sh = (.inr (.inl 30)) := Option.some.inj (h.symm.trans rfl)
  subst e
  exact Or.inl rfl⟩
theorem n_z113 (x : n_Cx) (q0 qm : Nat) (r rm ts : Nat → Nat) : n_ag x q0 qm r rm ts 113 := ⟨_, rfl, rfl, fun sh h => by
  have e : sh = (.inr (.inl 30)) := Option.some.inj (h.symm.trans rfl)
  subst e
  exact Or.inl rfl⟩
theorem n_z114 (x : n_Cx) (q0 qm : Nat) (r rm ts : Nat → Nat) : n_ag x q0 qm r rm ts 114 := ⟨_, rfl, rfl, fun sh h => by
  have e : sh = (.inr (.inl 135)) := Option.some.inj (h.symm.trans rfl)
  subst e
  exact Or.inl rfl⟩
theorem n_z115 (x : n_Cx) (q0 qm : Nat) (r rm ts : Nat → Nat) : n_ag x q0 qm r rm ts 115 := ⟨_, rfl, rfl, fun sh h => by
  have e : sh = (.inr (.inl 3)) := Option.some.inj (h.symm.trans rfl)
  subst e
  exact Or.inl rfl⟩
theorem n_zs29 (x : n_Cx) (q0 qm : Nat) (r rm ts : Nat → Nat) : ∀ k, k < 29 → n_ag x q0 qm r rm ts k := (n_ags (n_ags (n_ags (n_ags (n_ags (n_ags (n_ags (n_ags (n_ags (n_ags (n_ags (n_ags (n_ags (n_ags (n_ags (n_ags (n_ags (n_ags (n_ags (n_ags (n_ags (n_ags (n_ags (n_ags (n_ags (n_ags (n_ags (n_ags (n_ags (fun k h => absurd h (Nat.not_lt_zero k)) (n_z0 x q0 qm r rm ts)) (n_z1 x q0 qm r rm ts)) (n_z2 x q0 qm r rm ts)) (n_z3 x q0 qm r rm ts)) (n_z4 x q0 qm r rm ts)) (n_z5 x q0 qm r rm ts)) (n_z6 x q0 qm r rm ts)) (n_z7 x q0 qm r rm ts)) (n_z8 x q0 qm r rm ts)) (n_z9 x q0 qm r rm ts)) (n_z10 x q0 qm r rm ts)) (n_z11 x q0 qm r rm ts)) (n_z12 x q0 qm r rm ts)) (n_z13 x q0 qm r rm ts)) (n_z14 x q0 qm r rm ts)) (n_z15 x q0 qm r rm ts)) (n_z16 x q0 qm r rm ts)) (n_z17 x q0 qm r rm ts)) (n_z18 x q0 qm r rm ts)) (n_z19 x q0 qm r rm ts)) (n_z20 x q0 qm r rm ts)) (n_z21 x q0 qm r rm ts)) (n_z22 x q0 qm r rm ts)) (n_z23 x q0 qm r rm ts)) (n_z24 x q0 qm r rm ts)) (n_z25 x q0 qm r rm ts)) (n_z26 x q0 qm r rm ts)) (n_z27 x q0 qm r rm ts)) (n_z28 x q0 qm r rm ts))
theorem n_zs58 (x : n_Cx) (q0 qm : Nat) (r rm ts : Nat → Nat) : ∀ k, k < 58 → n_ag x q0 qm r rm ts k := (n_ags (n_ags (n_ags (n_ags (n_ags (n_ags (n_ags (n_ags (n_ags (n_ags (n_ags (n_ags (n_ags (n_ags (n_ags (n_ags (n_ags (n_ags (n_ags (n_ags (n_ags (n_ags (n_ags (n_ags (n_ags (n_ags (n_ags (n_ags (n_ags (n_zs29 x q0 qm r rm ts) (n_z29 x q0 qm r rm ts)) (n_z30 x q0 qm r rm ts)) (n_z31 x q0 qm r rm ts)) (n_z32 x q0 qm r rm ts)) (n_z33 x q0 qm r rm ts)) (n_z34 x q0 qm r rm ts)) (n_z35 x q0 qm r rm ts)) (n_z36 x q0 qm r rm ts)) (n_z37 x q0 qm r rm ts)) (n_z38 x q0 qm r rm ts)) (n_z39 x q0 qm r rm ts)) (n_z40 x q0 qm r rm ts)) (n_z41 x q0 qm r rm ts)) (n_z42 x q0 qm r rm ts)) (n_z43 x q0 qm r rm ts)) (n_z44 x q0 qm r rm ts)) (n_z45 x q0 qm r rm ts)) (n_z46 x q0 qm r rm ts)) (n_z47 x q0 qm r rm ts)) (n_z48 x q0 qm r rm ts)) (n_z49 x q0 qm r rm ts)) (n_z50 x q0 qm r rm ts)) (n_z51 x q0 qm r rm ts)) (n_z52 x q0 qm r rm ts)) (n_z53 x q0 qm r rm ts)) (n_z54 x q0 qm r rm ts)) (n_z55 x q0 qm r rm ts)) (n_z56 x q0 qm r rm ts)) (n_z57 x q0 qm r rm ts))
theorem n_zs87 (x : n_Cx) (q0 qm : Nat) (r rm ts : Nat → Nat) : ∀ k, k < 87 → n_ag x q0 qm r rm ts k := (n_ags (n_ags (n_ags (n_ags (n_ags (n_ags (n_ags (n_ags (n_ags (n_ags (n_ags (n_ags (n_ags (n_ags (n_ags (n_ags (n_ags (n_ags (n_ags (n_ags (n_ags (n_ags (n_ags (n_ags (n_ags (n_ags (n_ags (n_ags (n_ags (n_zs58 x q0 qm r rm ts) (n_z58 x q0 qm r rm ts)) (n_z59 x q0 qm r rm ts)) (n_z60 x q0 qm r rm ts)) (n_z61 x q0 qm r rm ts)) (n_z62 x q0 qm r rm ts)) (n_z63 x q0 qm r rm ts)) (n_z64 x q0 qm r rm ts)) (n_z65 x q0 qm r rm ts)) (n_z66 x q0 qm r rm ts)) (n_z67 x q0 qm r rm ts)) (n_z68 x q0 qm r rm ts)) (n_z69 x q0 qm r rm ts)) (n_z70 x q0 qm r rm ts)) (n_z71 x q0 qm r rm ts)) (n_z72 x q0 qm r rm ts)) (n_z73 x q0 qm r rm ts)) (n_z74 x q0 qm r rm ts)) (n_z75 x q0 qm r rm ts)) (n_z76 x q0 qm r rm ts)) (n_z77 x q0 qm r rm ts)) (n_z78 x q0 qm r rm ts)) (n_z79 x q0 qm r rm ts)) (n_z80 x q0 qm r rm ts)) (n_z81 x q0 qm r rm ts)) (n_z82 x q0 qm r rm ts)) (n_z83 x q0 qm r rm ts)) (n_z84 x q0 qm r rm ts)) (n_z85 x q0 qm r rm ts)) (n_z86 x q0 qm r rm ts))
theorem n_zs116 (x : n_Cx) (q0 qm : Nat) (r rm ts : Nat → Nat) : ∀ k, k < 116 → n_ag x q0 qm r rm ts k := (n_ags (n_ags (n_ags (n_ags (n_ags (n_ags (n_ags (n_ags (n_ags (n_ags (n_ags (n_ags (n_ags (n_ags (n_ags (n_ags (n_ags (n_ags (n_ags (n_ags (n_ags (n_ags (n_ags (n_ags (n_ags (n_ags (n_ags (n_ags (n_ags (n_zs87 x q0 qm r rm ts) (n_z87 x q0 qm r rm ts)) (n_z88 x q0 qm r rm ts)) (n_z89 x q0 qm r rm ts)) (n_z90 x q0 qm r rm ts)) (n_z91 x q0 qm r rm ts)) (n_z92 x q0 qm r rm ts)) (n_z93 x q0 qm r rm ts)) (n_z94 x q0 qm r rm ts)) (n_z95 x q0 qm r rm ts)) (n_z96 x q0 qm r rm ts)) (n_z97 x q0 qm r rm ts)) (n_z98 x q0 qm r rm ts)) (n_z99 x q0 qm r rm ts)) (n_z100 x q0 qm r rm ts)) (n_z101 x q0 qm r rm ts)) (n_z102 x q0 qm r rm ts)) (n_z103 x q0 qm r rm ts)) (n_z104 x q0 qm r rm ts)) (n_z105 x q0 qm r rm ts)) (n_z106 x q0 qm r rm ts)) (n_z107 x q0 qm r rm ts)) (n_z108 x q0 qm r rm ts)) (n_z109 x q0 qm r rm ts)) (n_z110 x q0 qm r rm ts)) (n_z111 x q0 qm r rm ts)) (n_z112 x q0 qm r rm ts)) (n_z113 x q0 qm r rm ts)) (n_z114 x q0 qm r rm ts)) (n_z115 x q0 qm r rm ts))
theorem n_fin {x : n_Cx} {q0 qm : Nat} {r rm ts : Nat → Nat} {Y : va_W} {H : Heap} (h : n_H x (n_nc x q0 r ++ n_model x qm rm) Y H) : va_P x.D q_cl (q_wld (n_ρ q0 qm r rm ts) (n_cA x) n_M0) H ∧ q_inj (n_ρ q0 qm r rm ts) ∧ ∀ q, q_A (n_ρ q0 qm r rm ts) q → x.S0 ≤ q := by
  refine ⟨fun k q hq => ?_, fun i j hi hj e => ?_, fun q hq => ?_⟩
  · rw [q_wld_get] at hq
    cases hl : q_lay[k]? with
    | none => rw [hl] at hq; cases hq
    | some sh =>
      rw [hl] at hq
      cases hq
      obtain ⟨p, a1, a2, a3⟩ := n_zs116 x q0 qm r rm ts k (q_lay_lt hl)
      exact (a3 sh hl).to (h.1 k p (n_at a1))
  · obtain ⟨p, a1, a2, a3⟩ := n_zs116 x q0 qm r rm ts i hi
    obtain ⟨p', b1, b2, b3⟩ := n_zs116 x q0 qm r rm ts j hj
    exact h.2.1 i j p p' (n_at a1) (n_at b1) (by rw [a2, b2, e])
  · obtain ⟨k, hk, rfl⟩ := hq
    obtain ⟨p, a1, a2, a3⟩ := n_zs116 x q0 qm r rm ts k hk
    rw [← a2]
    exact h.2.2 k p (n_at a1)
theorem n_K {x : n_Cx} {s : State} (hK : va_K x.D q_cl (n_ty x.cI x.cII x.cL) s) : q_K (n_cA x) x.D s := by
  refine ⟨hK.sub [] rfl, fun k ty hk => ?_⟩
  unfold q_aty at hk
  cases hl : q_lay[k]? with
  | none => rw [hl] at hk; cases hk
  | some sh =>
    rw [hl] at hk
    have hc : n_cA x k = (match some sh with
      | some (.inr (.inr (b, _))) => if b = 39 then x.cL else x.cII
      | _ => x.cI) := by unfold n_cA; rw [hl]
    rw [hc]
    rcases sh with ⟨o1, o2⟩ | n | ⟨b, n⟩
    · cases hk
    · cases hk
      exact hK.sub [0] rfl
    · cases hk
      show va_K x.D q_cl [(if b = 39 then x.cL else x.cII, if b = 39 then .object "NeverCross$Law" else .array .int)] s
      by_cases hb : b = 39
      · rw [if_pos hb, if_pos hb]
        exact hK.sub [2] rfl
      · rw [if_neg hb, if_neg hb]
        exact hK.sub [1] rfl
theorem nC_L_7 : Cond.classLink "NeverCrossLaw" 7 "NeverCross" ∈ goodTbl := q_in 73 (by decide +kernel) rfl
theorem nC_L_10 : Cond.classLink "NeverCrossLaw" 10 "NeverCrossModel" ∈ goodTbl := q_in 782 (by decide +kernel) rfl
theorem nN_X11 : Cond.instantiable "NeverCross" 17 ∈ goodTbl := q_in 74 (by decide +kernel) rfl
theorem nM_X11 : Cond.instanceMethod ⟨"NeverCross", "<init>", "()V"⟩ ∈ goodTbl := q_in 76 (by decide +kernel) rfl
theorem nZ_X11 : Cond.initialized "NeverCross" ∈ goodTbl := q_in 56 (by decide +kernel) rfl
theorem nB_X11 : Cond.code ⟨"NeverCross", "<init>", "()V"⟩ prog_1_method_1_code 1 none ∈ goodTbl := q_in 77 (by decide +kernel) rfl
theorem nN_X12 : Cond.instantiable "NeverCrossModel" 28 ∈ goodTbl := q_in 783 (by decide +kernel) rfl
theorem nM_X12 : Cond.instanceMethod ⟨"NeverCrossModel", "<init>", "()V"⟩ ∈ goodTbl := q_in 785 (by decide +kernel) rfl
theorem nZ_X12 : Cond.initialized "NeverCrossModel" ∈ goodTbl := q_in 68 (by decide +kernel) rfl
theorem nB_X12 : Cond.code ⟨"NeverCrossModel", "<init>", "()V"⟩ prog_14_method_1_code 1 none ∈ goodTbl := q_in 786 (by decide +kernel) rfl
theorem nL_L_9 : Cond.methodLink "NeverCrossLaw" 9 ⟨"NeverCross", "<init>", "()V"⟩ ∈ goodTbl := q_in 75 (by decide +kernel) rfl
theorem nL_L_12 : Cond.methodLink "NeverCrossLaw" 12 ⟨"NeverCrossModel", "<init>", "()V"⟩ ∈ goodTbl := q_in 784 (by decide +kernel) rfl
theorem n_known {s : State} {args : Array Value} (hts : ∀ w ∈ goodTbl, w.before args s = true) : ∃ D : va_G, ∀ (k : Nat) (q : vw_C), q_cl[k]? = some q → u_Kn s q.1 q.2.1 q.2.2 (D.1 k) (D.2 k) := by
  obtain ⟨c0, i0, h0⟩ := u_known (C := RX0) (T := TX0) (N := 0) (n := 0) hts ingX0 (hts _ nN_X0)
  obtain ⟨c1, i1, h1⟩ := u_known (C := RX1) (T := TX1) (N := 6) (n := 6) hts ingX1 (hts _ nN_X1)
  obtain ⟨c2, i2, h2⟩ := u_known (C := RX2) (T := TX2) (N := 8) (n := 8) hts ingX2 (hts _ nN_X2)
  obtain ⟨c3, i3, h3⟩ := u_known (C := RX4) (T := TX4) (N := 0) (n := 0) hts ingX4 (hts _ nN_X4)
  obtain ⟨c4, i4, h4⟩ := u_known (C := RX5) (T := TX5) (N := 0) (n := 0) hts ingX5 (hts _ nN_X5)
  obtain ⟨c5, i5, h5⟩ := u_known (C := RX6) (T := TX6) (N := 12) (n := 12) hts ingX6 (hts _ nN_X6)
  obtain ⟨c6, i6, h6⟩ := u_known (C := RX7) (T := TX7) (N := 9) (n := 9) hts ingX7 (hts _ nN_X7)
  obtain ⟨c7, i7, h7⟩ := u_known (C := RX8) (T := TX8) (N := 0) (n := 0) hts ingX8 (hts _ nN_X8)
  obtain ⟨c8, i8, h8⟩ := u_known (C := RX9) (T := TX9) (N := 0) (n := 0) hts ingX9 (hts _ nN_X9)
  obtain ⟨c9, i9, h9⟩ := u_known (C := RX10) (T := TX10) (N := 5) (n := 5) hts ingX10 (hts _ nN_X10)
  obtain ⟨c10, i10, h10⟩ := u_known (C := RX11) (T := TX11) (N := 17) (n := 17) hts ingX11 (hts _ nN_X11)
  obtain ⟨c11, i11, h11⟩ := u_known (C := RX12) (T := TX12) (N := 28) (n := 28) hts ingX12 (hts _ nN_X12)
  refine ⟨(fun k => match k with | 0 => c0 | 1 => c1 | 2 => c2 | 3 => c3 | 4 => c4 | 5 => c5 | 6 => c6 | 7 => c7 | 8 => c8 | 9 => c9 | 10 => c10 | _ => c11, fun k => match k with | 0 => i0 | 1 => i1 | 2 => i2 | 3 => i3 | 4 => i4 | 5 => i5 | 6 => i6 | 7 => i7 | 8 => i8 | 9 => i9 | 10 => i10 | _ => i11), ?_⟩
  intro k q hq
  match k, hq with
  | 0, hq => cases hq; exact h0
  | 1, hq => cases hq; exact h1
  | 2, hq => cases hq; exact h2
  | 3, hq => cases hq; exact h3
  | 4, hq => cases hq; exact h4
  | 5, hq => cases hq; exact h5
  | 6, hq => cases hq; exact h6
  | 7, hq => cases hq; exact h7
  | 8, hq => cases hq; exact h8
  | 9, hq => cases hq; exact h9
  | 10, hq => cases hq; exact h10
  | 11, hq => cases hq; exact h11
  | k + 12, hq => simp at hq
theorem n_wd {s : State} {args : Array Value} (hts : ∀ w ∈ lw_tbl, w.before args s = true) : n_Wd s := by
  refine ⟨fun q hq => va_Nw.of rfl (hts _ ((show ∀ q ∈ n_ml, Cond.methodLinkNest q.1 q.2.1 (n_init q.2.2) "NeverCross" ∈ lw_tbl by decide +kernel) q hq)), fun C hC => va_Nw.of rfl (hts _ ((show ∀ C ∈ n_ca, Cond.castable C "NeverCross$Law" ∈ lw_tbl by decide +kernel) C hC)), va_Nw.of rfl (hts _ (by decide +kernel)), va_AO.of (hts (.arrayOver (.object "NeverCross$Law")) (by decide +kernel)), fun A => ?_⟩
  have h1 := hts (.arrayOver (.array .int)) (by decide +kernel)
  unfold Cond.before Cond.holds at h1 ⊢
  simp only [Cond.value] at h1 ⊢
  exact h1
theorem n_nw {s : State} {args : Array Value} (hts : ∀ w ∈ lw_tbl, w.before args s = true) : q_Nw s := ⟨va_Nw.of rfl (hts _ (by decide +kernel)), va_Nw.of rfl (hts _ (by decide +kernel)), va_Nw.of rfl (hts _ (by decide +kernel)), va_Nw.of rfl (hts _ (by decide +kernel)), va_Nw.of rfl (hts _ (by decide +kernel)), va_Nw.of rfl (hts _ (by decide +kernel)), va_Nw.of rfl (hts _ (by decide +kernel)), va_Nw.of rfl (hts _ (by decide +kernel)), va_Nw.of rfl (hts _ (by decide +kernel)), va_Nw.of rfl (hts _ (by decide +kernel))⟩
theorem n_arrs {s : State} {args : Array Value} {D : va_G} (hts : ∀ w ∈ goodTbl, w.before args s = true) (hW : n_Wd s) (hD : ∀ (k : Nat) (q : vw_C), q_cl[k]? = some q → u_Kn s q.1 q.2.1 q.2.2 (D.1 k) (D.2 k)) : ∃ cI cII cL : ClassId, va_K D q_cl (n_ty cI cII cL) s := by
  obtain ⟨cI, kI, p1, i1, i2, i3⟩ := Cond.arrayClass_spec (hts _ nI_arr)
  obtain ⟨p2, cII, k2, j1, j2, j3, j4, j5⟩ := arrayOverA_spec (t := .int) (hW.2.2.2.2 args)
  obtain ⟨p3, cL, k3, l1, l2, l3, l4, l5⟩ := Cond.arrayOver_spec (n := "NeverCross$Law") hW.2.2.2.1
  refine ⟨cI, cII, cL, hD, fun k q hk => ?_⟩
  match k, hk with
  | 0, hk => cases hk; exact ⟨fun n z => ⟨fun k h => (by cases h), kI, i2, p1, i3⟩, i1⟩
  | 1, hk => cases hk; exact ⟨fun n z => ⟨fun k h => (by cases h), k2, j3, p2, j4⟩, j5⟩
  | 2, hk => cases hk; exact ⟨fun n z => ⟨fun k h => (by cases h), k3, l3, p3, l4⟩, k3, p3, l3, l4, l1, l5⟩
  | k + 3, hk => simp at hk
