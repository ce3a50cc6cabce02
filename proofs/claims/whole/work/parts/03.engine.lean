/-! The memory of both objects as numbers: id of a cell, place in it -/
abbrev q_M : Type := Nat → Nat → Int32
def q_row (M : q_M) (k : Nat) (f : Nat → Int32) : q_M := fun a => if a = k then f else M a
def q_set (M : q_M) (k j : Nat) (v : Int32) : q_M := q_row M k (upd (M k) j v)
theorem q_row_s (M : q_M) (k : Nat) (f : Nat → Int32) : q_row M k f k = f := if_pos rfl
theorem q_row_n {M : q_M} {k a : Nat} {f : Nat → Int32} (h : a ≠ k) : q_row M k f a = M a := if_neg h
abbrev q_Sh : Type := (Nat × List (Option Nat)) ⊕ (Nat ⊕ (Nat × Nat))
def q_lay : List q_Sh := [.inl (10, [some 1, none, some 2, some 3, some 10, some 24, none, some 38, some 44, some 54, some 64, some 88, some 91, some 94, none, none, none]),
  .inr (.inl 48),
  .inr (.inl 7),
  .inl (5, [none, none, none, none, none, some 4, some 5, some 6, some 7, some 8, some 9, none]),
  .inr (.inl 30),
  .inr (.inl 30),
  .inr (.inl 30),
  .inr (.inl 3),
  .inr (.inl 3),
  .inr (.inl 30),
  .inl (2, [some 11, none, none, none, none, some 18, some 19, some 20]),
  .inl (5, [none, none, none, none, none, some 12, some 13, some 14, some 15, some 16, some 17, none]),
  .inr (.inl 30),
  .inr (.inl 30),
  .inr (.inl 30),
  .inr (.inl 3),
  .inr (.inl 3),
  .inr (.inl 30),
  .inr (.inl 4),
  .inr (.inl 3),
  .inr (.inr (21, 3)),
  .inr (.inl 10),
  .inr (.inl 10),
  .inr (.inl 10),
  .inl (2, [some 25, none, none, none, none, some 32, some 33, some 34]),
  .inl (5, [none, none, none, none, none, some 26, some 27, some 28, some 29, some 30, some 31, none]),
  .inr (.inl 30),
  .inr (.inl 30),
  .inr (.inl 30),
  .inr (.inl 3),
  .inr (.inl 3),
  .inr (.inl 30),
  .inr (.inl 4),
  .inr (.inl 3),
  .inr (.inr (35, 3)),
  .inr (.inl 10),
  .inr (.inl 10),
  .inr (.inl 10),
  .inr (.inr (39, 5)),
  .inl (4, []),
  .inl (8, []),
  .inl (3, []),
  .inl (0, []),
  .inl (7, []),
  .inl (9, [some 11, none, some 45, some 46, some 50]),
  .inr (.inl 3),
  .inr (.inr (47, 3)),
  .inr (.inl 126),
  .inr (.inl 126),
  .inr (.inl 126),
  .inr (.inr (51, 3)),
  .inr (.inl 126),
  .inr (.inl 126),
  .inr (.inl 126),
  .inl (9, [some 11, none, some 55, some 56, some 60]),
  .inr (.inl 3),
  .inr (.inr (57, 3)),
  .inr (.inl 126),
  .inr (.inl 126),
  .inr (.inl 126),
  .inr (.inr (61, 3)),
  .inr (.inl 126),
  .inr (.inl 126),
  .inr (.inl 126),
  .inl (6, [none, none, some 11, some 44, some 65, some 66, some 67, some 68, some 78]),
  .inr (.inl 3),
  .inr (.inl 9),
  .inr (.inl 9),
  .inr (.inr (69, 9)),
  .inr (.inl 30),
  .inr (.inl 30),
  .inr (.inl 30),
  .inr (.inl 30),
  .inr (.inl 30),
  .inr (.inl 30),
  .inr (.inl 30),
  .inr (.inl 30),
  .inr (.inl 30),
  .inr (.inr (79, 9)),
  .inr (.inl 30),
  .inr (.inl 30),
  .inr (.inl 30),
  .inr (.inl 30),
  .inr (.inl 30),
  .inr (.inl 30),
  .inr (.inl 30),
  .inr (.inl 30),
  .inr (.inl 30),
  .inl (1, [some 89, some 44, some 90, none, none, none]),
  .inr (.inl 3),
  .inr (.inl 3),
  .inl (1, [some 92, some 44, some 93, none, none, none]),
  .inr (.inl 3),
  .inr (.inl 3),
  .inl (1, [some 95, some 54, some 96, none, none, none]),
  .inr (.inl 3),
  .inr (.inl 3),
  .inl (11, [some 98, some 99, some 100, some 101, none, some 102, none, none, none, some 103, some 104, some 105, some 106, some 107, some 108, some 109, some 110, some 111, some 112, some 113, none, none, none, none, none, some 114, some 115, none]),
  .inr (.inl 7),
  .inr (.inl 135),
  .inr (.inl 135),
  .inr (.inl 135),
  .inr (.inl 48),
  .inr (.inl 3),
  .inr (.inl 1200),
  .inr (.inl 1200),
  .inr (.inl 1200),
  .inr (.inl 1200),
  .inr (.inl 3),
  .inr (.inl 3),
  .inr (.inl 3),
  .inr (.inl 3),
  .inr (.inl 30),
  .inr (.inl 30),
  .inr (.inl 135),
  .inr (.inl 3)] 
abbrev q_N : Nat := 116
theorem q_lay_len : q_lay.length = q_N := by decide +kernel
theorem q_lay_lt {k : Nat} {sh : q_Sh} (h : q_lay[k]? = some sh) : k < q_N := by
  rw [← q_lay_len]; exact (List.getElem?_eq_some_iff.mp h).1
def q_aty (k : Nat) : Option FieldType := match q_lay[k]? with
  | some (.inr (.inl _)) => some .int
  | some (.inr (.inr (b, _))) => some (if b = 39 then .object "NeverCross$Law" else .array .int)
  | _ => none
def q_rv (ρ : Nat → Nat) : Value → Value
  | .ref k => .ref (ρ k)
  | v => v
theorem q_rv_cat (ρ : Nat → Nat) (v : Value) : (q_rv ρ v).category = v.category := by cases v <;> rfl
theorem q_rv_sum (ρ : Nat → Nat) (l : List Value) : ((l.map (q_rv ρ)).map fun v => v.category).sum = (l.map fun v => v.category).sum := by
  rw [List.map_map]
  congr 1
  exact List.map_congr_left fun v _ => q_rv_cat ρ v
def q_fv (ρ : Nat → Nat) (row : Nat → Int32) : Nat → List (Option Nat) → List Value
  | _, [] => []
  | j, none :: r => .int (row j) :: q_fv ρ row (j + 1) r
  | j, some k :: r => .ref (ρ k) :: q_fv ρ row (j + 1) r
def q_en (ρ : Nat → Nat) (cA : Nat → ClassId) (M : q_M) (k : Nat) : q_Sh → va_E
  | .inl (ci, fs) => .inr (ci, q_fv ρ (M k) 0 fs)
  | .inr (.inl n) => .inl (cA k, n, .inl (M k))
  | .inr (.inr (b, n)) => .inl (cA k, n, .inr (.inr (.inr (.inr (fun j => some (ρ (b + j)))))))
def q_wld (ρ : Nat → Nat) (cA : Nat → ClassId) (M : q_M) : va_W := q_lay.mapIdx (fun k sh => (ρ k, q_en ρ cA M k sh))
theorem q_wld_get (ρ : Nat → Nat) (cA : Nat → ClassId) (M : q_M) (k : Nat) : (q_wld ρ cA M)[k]? = (q_lay[k]?).map (fun sh => (ρ k, q_en ρ cA M k sh)) := by
  unfold q_wld
  rw [List.getElem?_mapIdx]
theorem q_wld_at {ρ : Nat → Nat} {cA : Nat → ClassId} {M : q_M} {k : Nat} {sh : q_Sh} (h : q_lay[k]? = some sh) : (q_wld ρ cA M)[k]? = some (ρ k, q_en ρ cA M k sh) := by
  rw [q_wld_get, h]; rfl
theorem q_en_row {ρ : Nat → Nat} {cA : Nat → ClassId} {M : q_M} {k a : Nat} {f : Nat → Int32} (h : a ≠ k) (sh : q_Sh) : q_en ρ cA (q_row M k f) a sh = q_en ρ cA M a sh := by
  rcases sh with ⟨ci, fs⟩ | n | ⟨b, n⟩
  · show Sum.inr (ci, q_fv ρ (q_row M k f a) 0 fs) = _
    rw [q_row_n h]; rfl
  · show Sum.inl (cA a, n, Sum.inl (q_row M k f a)) = _
    rw [q_row_n h]; rfl
  · rfl
theorem q_wld_row {ρ : Nat → Nat} {cA : Nat → ClassId} {M : q_M} {k : Nat} {sh : q_Sh} {f : Nat → Int32} (h : q_lay[k]? = some sh) {x : va_E} (hx : x = q_en ρ cA (q_row M k f) k sh) : (q_wld ρ cA M).set k (ρ k, x) = q_wld ρ cA (q_row M k f) := by
  subst hx
  apply List.ext_getElem?
  intro j
  by_cases hj : k = j
  · subst hj
    rw [List.getElem?_set_self ((List.getElem?_eq_some_iff.mp (q_wld_at (ρ := ρ) (cA := cA) (M := M) h)).1), q_wld_at h]
  · rw [List.getElem?_set_ne hj, q_wld_get, q_wld_get]
    cases q_lay[j]? with
    | none => rfl
    | some z => simp only [Option.map_some]; rw [q_en_row (Ne.symm hj)]
theorem q_fv_get (ρ : Nat → Nat) (row : Nat → Int32) (fs : List (Option Nat)) : ∀ (j k : Nat) (f : Option Nat), fs[k]? = some f → (q_fv ρ row j fs)[k]? = some (match f with | none => .int (row (j + k)) | some t => .ref (ρ t)) := by
  induction fs with
  | nil => intro j k f h; simp at h
  | cons a r ih =>
    intro j k f h
    cases k with
    | zero =>
      simp at h
      subst h
      cases a <;> simp [q_fv]
    | succ k =>
      have h' : r[k]? = some f := by simpa using h
      have := ih (j + 1) k f h'
      rw [show j + (k + 1) = j + 1 + k by omega]
      cases a <;> simpa [q_fv] using this
theorem q_fv_len (ρ : Nat → Nat) (row : Nat → Int32) (fs : List (Option Nat)) : ∀ j, (q_fv ρ row j fs).length = fs.length := by
  induction fs with
  | nil => intro j; rfl
  | cons a r ih => intro j; cases a <;> simp [q_fv, ih]
theorem q_fv_same (ρ : Nat → Nat) {row row' : Nat → Int32} (fs : List (Option Nat)) : ∀ j, (∀ t, j ≤ t → row t = row' t) → q_fv ρ row j fs = q_fv ρ row' j fs := by
  induction fs with
  | nil => intro j _; rfl
  | cons a r ih =>
    intro j h
    have := ih (j + 1) (fun t ht => h t (by omega))
    cases a <;> simp [q_fv, this, h j (Nat.le_refl _)]
theorem q_fv_set (ρ : Nat → Nat) (row : Nat → Int32) (v : Int32) (fs : List (Option Nat)) : ∀ (j k : Nat), fs[k]? = some none → (q_fv ρ row j fs).set k (.int v) = q_fv ρ (upd row (j + k) v) j fs := by
  induction fs with
  | nil => intro j k h; simp at h
  | cons a r ih =>
    intro j k h
    cases k with
    | zero =>
      simp at h
      subst h
      simp only [q_fv, List.set_cons_zero, Nat.add_zero]
      rw [q_fv_same ρ (row := row) (row' := upd row j v) r (j + 1) (fun t ht => by simp [upd]; omega)]
      simp [upd]
    | succ k =>
      have h' : r[k]? = some none := by simpa using h
      have h2 := ih (j + 1) k h'
      rw [show j + (k + 1) = j + 1 + k by omega]
      cases a with
      | none =>
        simp only [q_fv, List.set_cons_succ, h2]
        rw [show upd row (j + 1 + k) v j = row j by simp [upd]; omega]
      | some t => simp only [q_fv, List.set_cons_succ, h2]
/-! addresses -/
def q_inj (ρ : Nat → Nat) : Prop := ∀ i j, i < q_N → j < q_N → ρ i = ρ j → i = j
def q_A (ρ : Nat → Nat) : Nat → Prop := fun q => ∃ k, k < q_N ∧ q = ρ k
theorem q_D {ρ : Nat → Nat} (h : q_inj ρ) (cA : Nat → ClassId) (M : q_M) : va_D (q_A ρ) (q_wld ρ cA M) := by
  have key : ∀ (i : Nat) (p : Nat × va_E), (q_wld ρ cA M)[i]? = some p → i < q_N ∧ p.1 = ρ i := by
    intro i p hp
    rw [q_wld_get] at hp
    cases hl : q_lay[i]? with
    | none => rw [hl] at hp; cases hp
    | some sh => rw [hl] at hp; cases hp; exact ⟨q_lay_lt hl, rfl⟩
  refine ⟨fun i j p q hp hq e => ?_, fun k q hk => ?_⟩
  · obtain ⟨a1, a2⟩ := key i p hp
    obtain ⟨b1, b2⟩ := key j q hq
    exact h i j a1 b1 (by rw [← a2, ← b2]; exact e)
  · obtain ⟨a1, a2⟩ := key k q hk
    exact ⟨k, a1, a2⟩
/-! what the tables give -/
def q_K (cA : Nat → ClassId) (D : va_G) (U : State) : Prop := va_K D q_cl [] U ∧ ∀ k ty, q_aty k = some ty → va_K D q_cl [(cA k, ty)] U
theorem q_K.moved {cA : Nat → ClassId} {D : va_G} {u U : State} (hvm : u.vm.Alike U.vm) (h : q_K cA D u) : q_K cA D U := ⟨va_K.moved hvm h.1, fun k ty hk => va_K.moved hvm (h.2 k ty hk)⟩
def q_rc (X : Nat × (Nat → Int32)) (j : Nat) : Nat × (Nat → Int32) := match j with
  | 0 => (9, fun j => ([0, 10, 1, 210, 120, 201, 21, 102, 12] : List Int32).getD j 0)
  | 1 => (5, fun j => ([0, 0, 1, 3, 9] : List Int32).getD j 0)
  | 2 => (3, fun j => ([1, 10, 100] : List Int32).getD j 0)
  | _ => X
def q_sn (j : Nat) : String := match j with
  | 0 => "ORDERS"
  | 1 => "ORDER_STARTS"
  | _ => "TENS"
def q_Ro (ρ : Nat → Nat) (X : Nat × (Nat → Int32)) (U : State) (H : Heap) : Prop := (∀ j, j < 4 → va_T .int (ρ (1000 + j)) (q_rc X j).1 (fun t => .int ((q_rc X j).2 t)) (q_A ρ) U H) ∧ ∀ j, j < 3 → va_Z "NeverCross" (q_sn j) "[I" (.ref (ρ (1000 + j))) (q_A ρ) U H
theorem q_Ro.moved {ρ : Nat → Nat} {X : Nat × (Nat → Int32)} {u U : State} {H : Heap} (hvm : u.vm.Alike U.vm) (h : q_Ro ρ X u H) : q_Ro ρ X U H := ⟨fun j hj => va_T.moved hvm (h.1 j hj), fun j hj => va_Z.moved hvm (h.2 j hj)⟩
theorem q_Ro.kept {ρ : Nat → Nat} {X : Nat × (Nat → Int32)} {U : State} {H H1 : Heap} (h : q_Ro ρ X U H) (hq : ∀ a : Nat, a < H.size → ¬ q_A ρ a → H1[a]? = H[a]?) : q_Ro ρ X U H1 := ⟨fun j hj => va_T.kept (h.1 j hj) hq, fun j hj => va_Z.kept (h.2 j hj) hq⟩
def q_nw : List Cond := [(.fieldLinkNest "NeverCross$Study" 15 "NeverCross" "ORDERS" "[I" "NeverCross"), (.methodLinkNest "NeverCross$Held" 56 (⟨"NeverCross", "ownOrder", "(I)I"⟩) "NeverCross"), (.methodLinkNest "NeverCross$Study" 88 (⟨"NeverCross", "placeOfOrder", "(II)I"⟩) "NeverCross"), (.methodLinkNest "NeverCross$Study" 98 (⟨"NeverCross", "isIn", "(II)Z"⟩) "NeverCross"), (.fieldLinkNest "NeverCross$Study" 82 "NeverCross" "TENS" "[I" "NeverCross"), (.declares (⟨"NeverCross$Law", "wellsFor", "(III)I"⟩)), (.methodLinkNest "NeverCross$Told" 7 (⟨"NeverCross", "wellInOrder", "(II)I"⟩) "NeverCross"), (.methodLinkNest "NeverCross$Law" 13 (⟨"NeverCross", "wellInOrder", "(II)I"⟩) "NeverCross"), (.methodLinkNest "NeverCross$Slope" 110 (⟨"NeverCross", "isIn", "(II)Z"⟩) "NeverCross"), (.methodLinkNest "NeverCross$Held" 77 (⟨"NeverCross", "isIn", "(II)Z"⟩) "NeverCross")]
def q_Nw (U : State) : Prop := va_Nw (.fieldLinkNest "NeverCross$Study" 15 "NeverCross" "ORDERS" "[I" "NeverCross") U ∧ va_Nw (.methodLinkNest "NeverCross$Held" 56 (⟨"NeverCross", "ownOrder", "(I)I"⟩) "NeverCross") U ∧ va_Nw (.methodLinkNest "NeverCross$Study" 88 (⟨"NeverCross", "placeOfOrder", "(II)I"⟩) "NeverCross") U ∧ va_Nw (.methodLinkNest "NeverCross$Study" 98 (⟨"NeverCross", "isIn", "(II)Z"⟩) "NeverCross") U ∧ va_Nw (.fieldLinkNest "NeverCross$Study" 82 "NeverCross" "TENS" "[I" "NeverCross") U ∧ va_Nw (.declares (⟨"NeverCross$Law", "wellsFor", "(III)I"⟩)) U ∧ va_Nw (.methodLinkNest "NeverCross$Told" 7 (⟨"NeverCross", "wellInOrder", "(II)I"⟩) "NeverCross") U ∧ va_Nw (.methodLinkNest "NeverCross$Law" 13 (⟨"NeverCross", "wellInOrder", "(II)I"⟩) "NeverCross") U ∧ va_Nw (.methodLinkNest "NeverCross$Slope" 110 (⟨"NeverCross", "isIn", "(II)Z"⟩) "NeverCross") U ∧ va_Nw (.methodLinkNest "NeverCross$Held" 77 (⟨"NeverCross", "isIn", "(II)Z"⟩) "NeverCross") U
theorem q_Nw.warm {s U : State} (hW : s.WarmedH U.vm) (h : q_Nw s) : q_Nw U := by
  obtain ⟨h0, h1, h2, h3, h4, h5, h6, h7, h8, h9⟩ := h
  exact ⟨va_Nw.warmF hW h0, va_Nw.warmM hW h1, va_Nw.warmM hW h2, va_Nw.warmM hW h3, va_Nw.warmF hW h4, va_Nw.warmD hW h5, va_Nw.warmM hW h6, va_Nw.warmM hW h7, va_Nw.warmM hW h8, va_Nw.warmM hW h9⟩
theorem q_Nw.same {u U : State} (hv : u.vm = U.vm) (h : q_Nw u) : q_Nw U := by
  obtain ⟨h0, h1, h2, h3, h4, h5, h6, h7, h8, h9⟩ := h
  exact ⟨va_Nw.same rfl hv h0, va_Nw.same rfl hv h1, va_Nw.same rfl hv h2, va_Nw.same rfl hv h3, va_Nw.same rfl hv h4, va_Nw.same rfl hv h5, va_Nw.same rfl hv h6, va_Nw.same rfl hv h7, va_Nw.same rfl hv h8, va_Nw.same rfl hv h9⟩
/-! locals -/
def q_toL (ρ : Nat → Nat) : Nat → List (Option Value) → List (Nat × Value)
  | _, [] => []
  | i, none :: r => q_toL ρ (i + 1) r
  | i, some v :: r => (i, q_rv ρ v) :: q_toL ρ (i + 1) r
theorem q_toL_mem (ρ : Nat → Nat) (als : List (Option Value)) : ∀ (i : Nat) (q : Nat × Value), q ∈ q_toL ρ i als ↔ ∃ k v, als[k]? = some (some v) ∧ q = (i + k, q_rv ρ v) := by
  induction als with
  | nil => intro i q; simp [q_toL]
  | cons a r ih =>
    intro i q
    have step : (q ∈ q_toL ρ (i + 1) r) ↔ ∃ k v, (a :: r)[k + 1]? = some (some v) ∧ q = (i + (k + 1), q_rv ρ v) := by
      rw [ih (i + 1) q]
      simp [Nat.add_assoc, Nat.add_comm 1]
    cases a with
    | none =>
      show q ∈ q_toL ρ (i + 1) r ↔ _
      rw [step]
      constructor
      · rintro ⟨k, v, h1, h2⟩; exact ⟨k + 1, v, h1, h2⟩
      · rintro ⟨k, v, h1, h2⟩
        cases k with
        | zero => simp at h1
        | succ k => exact ⟨k, v, h1, h2⟩
    | some w =>
      show q ∈ (i, q_rv ρ w) :: q_toL ρ (i + 1) r ↔ _
      rw [List.mem_cons, step]
      constructor
      · rintro (h | ⟨k, v, h1, h2⟩)
        · exact ⟨0, w, by simp, by simpa using h⟩
        · exact ⟨k + 1, v, h1, h2⟩
      · rintro ⟨k, v, h1, h2⟩
        cases k with
        | zero => simp at h1; subst h1; exact Or.inl (by simpa using h2)
        | succ k => exact Or.inr ⟨k, v, h1, h2⟩
theorem q_lv {ρ : Nat → Nat} {als : List (Option Value)} {ls : Array Slot} {n k : Nat} {v : Value} (h : lv_has ls n (q_toL ρ 0 als)) (hk : als[k]? = some (some v)) : ls[k]? = some (.val (q_rv ρ v)) :=
  h.2.2 (k, q_rv ρ v) ((q_toL_mem ρ als 0 _).mpr ⟨k, v, hk, by simp⟩)
theorem q_lsub {ls : Array Slot} {n : Nat} {l l' : List (Nat × Value)} (h : lv_has ls n l) (hs : ∀ q ∈ l', q ∈ l) : lv_has ls n l' := ⟨h.1, h.2.1, fun q hq => h.2.2 q (hs q hq)⟩
/-- the place ahead holds no long -/
def q_c1 (als : List (Option Value)) : Nat → Bool
  | 0 => true
  | k + 1 => match als[k]? with
    | some (some v) => v.category == 1
    | _ => true
theorem q_st1 {ρ : Nat → Nat} {als : List (Option Value)} {i : Nat} {v : Value} (hc : q_c1 als i = true) : ∀ q ∈ q_toL ρ 0 (als.set i (some v)), q ∈ (i, q_rv ρ v) :: (q_toL ρ 0 als).filter (fun q => !(q.1 == i) && !(q.1 + 1 == i && q.2.category == 2)) := by
  intro q hq
  obtain ⟨k, w, h1, rfl⟩ := (q_toL_mem ρ _ 0 q).mp hq
  by_cases hk : i = k
  · subst hk
    have hlt : i < (als.set i (some v)).length := (List.getElem?_eq_some_iff.mp h1).1
    rw [List.getElem?_set_self (by simpa using hlt)] at h1
    cases h1
    simp
  · rw [List.getElem?_set_ne hk] at h1
    refine List.mem_cons_of_mem _ (List.mem_filter.mpr ⟨(q_toL_mem ρ als 0 _).mpr ⟨k, w, h1, rfl⟩, ?_⟩)
    have e1 : (0 + k == i) = false := by simp; omega
    rw [e1, q_rv_cat]
    by_cases e2 : 0 + k + 1 = i
    · subst e2
      have h1' : als[0 + k]? = some (some w) := by simpa using h1
      have hc' : (match als[0 + k]? with | some (some v) => v.category == 1 | _ => true) = true := hc
      rw [h1'] at hc'
      have : w.category = 1 := by simpa using hc'
      simp [this]
    · have : ¬ k + 1 = i := by omega
      simp [this]
theorem q_st2 {ρ : Nat → Nat} {als : List (Option Value)} {i : Nat} {v : Value} (hc : q_c1 als i = true) : ∀ q ∈ q_toL ρ 0 ((als.set i (some v)).set (i + 1) none), q ∈ (i, q_rv ρ v) :: (q_toL ρ 0 als).filter (fun q => !(q.1 == i) && (!(q.1 == i + 1) && !(q.1 + 1 == i && q.2.category == 2))) := by
  intro q hq
  obtain ⟨k, w, h1, rfl⟩ := (q_toL_mem ρ _ 0 q).mp hq
  have hk1 : i + 1 ≠ k := by
    intro e
    subst e
    have hlt := (List.getElem?_eq_some_iff.mp h1).1
    rw [List.getElem?_set_self (by simpa using hlt)] at h1
    cases h1
  rw [List.getElem?_set_ne hk1] at h1
  have h2 := q_st1 (ρ := ρ) (v := v) hc _ ((q_toL_mem ρ _ 0 (0 + k, q_rv ρ w)).mpr ⟨k, w, h1, rfl⟩)
  rcases List.mem_cons.mp h2 with h3 | h3
  · rw [h3]; simp
  · refine List.mem_cons_of_mem _ ?_
    rw [List.mem_filter] at h3 ⊢
    refine ⟨h3.1, ?_⟩
    have e1 : (0 + k == i + 1) = false := by simp; omega
    have h4 : (!(0 + k == i) && !(0 + k + 1 == i && (q_rv ρ w).category == 2)) = true := h3.2
    show (!(0 + k == i) && (!(0 + k == i + 1) && !(0 + k + 1 == i && (q_rv ρ w).category == 2))) = true
    rw [e1]
    exact h4
/-! the judgement -/
def q_rt (i : Nat) (v : Option Value) (pc : Nat) : Prop :=
  (∃ x : Int32, v = some (.int x) ∧ decode (q_mB i) pc = .ok (.ireturn, 1) ∧ (q_mR i = some .int ∨ (q_mR i = some .boolean ∧ (x = 0 ∨ x = 1)))) ∨ (v = none ∧ decode (q_mB i) pc = .ok (.return_, 1) ∧ q_mR i = none) ∨ (∃ (k : Nat) (C : String), v = some (.ref k) ∧ decode (q_mB i) pc = .ok (.areturn, 1) ∧ q_mR i = some (.object C))
def q_Fx (X : Nat × (Nat → Int32)) (ρ : Nat → Nat) (cA : Nat → ClassId) (D : va_G) (i d : Nat) (p : Program) (R : Room) (s : State) (m : MethodId) (args : Array Value) (c : Code) (cells slots : Nat) : Prop :=
  p.tables.exec = Jvm.exec ∧ c.code = q_mB i ∧ c.maxLocals = q_mL i ∧ s.vm.findClass (q_mY i).cls = some m.cls ∧ (∀ w ∈ goodTbl, w.before args s = true) ∧ (d + 2 ≤ R.frames ∧ 40 * (d + 2) ≤ R.locals ∧ cells ≤ R.cells ∧ slots ≤ R.slots) ∧ q_K cA D s ∧ q_Nw s ∧ q_Ro ρ X s s.heap ∧ q_inj ρ
def q_Ex (X : Nat × (Nat → Int32)) (d i pc : Nat) (als : List (Option Value)) (st : List Value) (M : q_M) (Q : Option Value → q_M → Prop) : Prop :=
  ∀ (l : Launch) (ρ : Nat → Nat) (cA : Nat → ClassId) (D : va_G) (p : Program) (e : Env) (R : Room) (s : State) (m : MethodId) (args : Array Value) (below : List Frame) (meth : Method) (c : Code) (cells slots : Nat) (Qw : State → Prop),
    q_Fx X ρ cA D i d p R s m args c cells slots → ∀ (H : Heap) (locs : List Loc) (ls : Array Slot), va_P D q_cl (q_wld ρ cA M) H → va_S (q_A ρ) s.heap H locs → lv_has ls (q_mL i) (q_toL ρ 0 als) →
    (∀ (v : Option Value) (M' : q_M) (H' : Heap) (locs' : List Loc) (pc' : Nat) (ls' : Array Slot), Q v M' → va_P D q_cl (q_wld ρ cA M') H' → va_S (q_A ρ) s.heap H' locs' → q_rt i v pc' → W p l e R s m args below meth c H' locs' cells slots Qw (F0 m pc' ls' ((v.map (q_rv ρ)).toList))) →
    W p l e R s m args below meth c H locs cells slots Qw (F0 m pc ls (st.map (q_rv ρ)))
section Rules
variable {X : Nat × (Nat → Int32)} {d i pc : Nat} {als : List (Option Value)} {st : List Value} {M : q_M} {Q : Option Value → q_M → Prop}
theorem q_iconst {n : Int} {v : Int32} (hd : decode (q_mB i) pc = .ok (.iconst n, 1)) (hv : Int32.ofInt n = v) (h : q_Ex X d i (pc + 1) als (.int v :: st) M Q) : q_Ex X d i pc als (st) M Q := by
  intro l ρ cA D p e R s m args below meth c cells slots Qw F H locs ls hP hS hl hk
  have h := h l ρ cA D p e R s m args below meth c cells slots Qw F H locs ls hP hS hl hk
  exact lv_iconst F.1 F.2.1 hd hv h
theorem q_bipush {n : Int} {v : Int32} (hd : decode (q_mB i) pc = .ok (.bipush n, 2)) (hv : (Int8.ofInt n).toInt32 = v) (h : q_Ex X d i (pc + 2) als (.int v :: st) M Q) : q_Ex X d i pc als (st) M Q := by
  intro l ρ cA D p e R s m args below meth c cells slots Qw F H locs ls hP hS hl hk
  have h := h l ρ cA D p e R s m args below meth c cells slots Qw F H locs ls hP hS hl hk
  exact lv_bipush F.1 F.2.1 hd hv h
theorem q_sipush {n : Int} {v : Int32} (hd : decode (q_mB i) pc = .ok (.sipush n, 3)) (hv : (Int16.ofInt n).toInt32 = v) (h : q_Ex X d i (pc + 3) als (.int v :: st) M Q) : q_Ex X d i pc als (st) M Q := by
  intro l ρ cA D p e R s m args below meth c cells slots Qw F H locs ls hP hS hl hk
  have h := h l ρ cA D p e R s m args below meth c cells slots Qw F H locs ls hP hS hl hk
  exact lv_sipush F.1 F.2.1 hd hv h
theorem q_lconst {n : Fin 2} {v : Int64} (hd : decode (q_mB i) pc = .ok (.lconst n, 1)) (hv : Int64.ofNat (n : Nat) = v) (h : q_Ex X d i (pc + 1) als (.long v :: st) M Q) : q_Ex X d i pc als (st) M Q := by
  intro l ρ cA D p e R s m args below meth c cells slots Qw F H locs ls hP hS hl hk
  have h := h l ρ cA D p e R s m args below meth c cells slots Qw F H locs ls hP hS hl hk
  exact lv_lconst F.1 F.2.1 hd hv h
theorem q_ldc {n : Nat} {v : Int32} (hd : decode (q_mB i) pc = .ok (.ldc n, 2)) (hw : Cond.constant (q_mY i).cls n v ∈ goodTbl) (h : q_Ex X d i (pc + 2) als (.int v :: st) M Q) : q_Ex X d i pc als (st) M Q := by
  intro l ρ cA D p e R s m args below meth c cells slots Qw F H locs ls hP hS hl hk
  have h := h l ρ cA D p e R s m args below meth c cells slots Qw F H locs ls hP hS hl hk
  exact lv_ldc F.1 F.2.1 F.2.2.2.1 (F.2.2.2.2.1 _ hw) hd h
theorem q_ldcw {n : Nat} {v : Int32} (hd : decode (q_mB i) pc = .ok (.ldc_w n, 3)) (hw : Cond.constant (q_mY i).cls n v ∈ goodTbl) (h : q_Ex X d i (pc + 3) als (.int v :: st) M Q) : q_Ex X d i pc als (st) M Q := by
  intro l ρ cA D p e R s m args below meth c cells slots Qw F H locs ls hP hS hl hk
  have h := h l ρ cA D p e R s m args below meth c cells slots Qw F H locs ls hP hS hl hk
  exact lv_ldcw F.1 F.2.1 F.2.2.2.1 (F.2.2.2.2.1 _ hw) hd h
theorem q_iload_n {k : Fin 4} {x : Int32} (hd : decode (q_mB i) pc = .ok (.iload_n k, 1)) (hv : als[(k : Nat)]? = some (some (.int x))) (h : q_Ex X d i (pc + 1) als (.int x :: st) M Q) : q_Ex X d i pc als (st) M Q := by
  intro l ρ cA D p e R s m args below meth c cells slots Qw F H locs ls hP hS hl hk
  have h := h l ρ cA D p e R s m args below meth c cells slots Qw F H locs ls hP hS hl hk
  exact lv_iload_n F.1 F.2.1 hd rfl (q_lv hl hv) h
theorem q_iload {k : Nat} {x : Int32} (hd : decode (q_mB i) pc = .ok (.iload k, 2)) (hv : als[k]? = some (some (.int x))) (h : q_Ex X d i (pc + 2) als (.int x :: st) M Q) : q_Ex X d i pc als (st) M Q := by
  intro l ρ cA D p e R s m args below meth c cells slots Qw F H locs ls hP hS hl hk
  have h := h l ρ cA D p e R s m args below meth c cells slots Qw F H locs ls hP hS hl hk
  exact lv_iload F.1 F.2.1 hd (q_lv hl hv) h
theorem q_lload_n {k : Fin 4} {x : Int64} (hd : decode (q_mB i) pc = .ok (.lload_n k, 1)) (hv : als[(k : Nat)]? = some (some (.long x))) (h : q_Ex X d i (pc + 1) als (.long x :: st) M Q) : q_Ex X d i pc als (st) M Q := by
  intro l ρ cA D p e R s m args below meth c cells slots Qw F H locs ls hP hS hl hk
  have h := h l ρ cA D p e R s m args below meth c cells slots Qw F H locs ls hP hS hl hk
  exact lv_lload_n F.1 F.2.1 hd rfl (q_lv hl hv) h
theorem q_lload {k : Nat} {x : Int64} (hd : decode (q_mB i) pc = .ok (.lload k, 2)) (hv : als[k]? = some (some (.long x))) (h : q_Ex X d i (pc + 2) als (.long x :: st) M Q) : q_Ex X d i pc als (st) M Q := by
  intro l ρ cA D p e R s m args below meth c cells slots Qw F H locs ls hP hS hl hk
  have h := h l ρ cA D p e R s m args below meth c cells slots Qw F H locs ls hP hS hl hk
  exact lv_lload F.1 F.2.1 hd (q_lv hl hv) h
theorem q_aload_n {k : Fin 4} {x : Nat} (hd : decode (q_mB i) pc = .ok (.aload_n k, 1)) (hv : als[(k : Nat)]? = some (some (.ref x))) (h : q_Ex X d i (pc + 1) als (.ref x :: st) M Q) : q_Ex X d i pc als (st) M Q := by
  intro l ρ cA D p e R s m args below meth c cells slots Qw F H locs ls hP hS hl hk
  have h := h l ρ cA D p e R s m args below meth c cells slots Qw F H locs ls hP hS hl hk
  exact lv_aload_n F.1 F.2.1 hd rfl (q_lv hl hv) h
theorem q_aload {k : Nat} {x : Nat} (hd : decode (q_mB i) pc = .ok (.aload k, 2)) (hv : als[k]? = some (some (.ref x))) (h : q_Ex X d i (pc + 2) als (.ref x :: st) M Q) : q_Ex X d i pc als (st) M Q := by
  intro l ρ cA D p e R s m args below meth c cells slots Qw F H locs ls hP hS hl hk
  have h := h l ρ cA D p e R s m args below meth c cells slots Qw F H locs ls hP hS hl hk
  exact lv_aload F.1 F.2.1 hd (q_lv hl hv) h
theorem q_istore_n {k : Fin 4} {x : Int32} (als2 : List (Option Value)) (hd : decode (q_mB i) pc = .ok (.istore_n k, 1)) (hc : q_c1 als (k : Nat) = true) (hn : (k : Nat) < q_mL i) (ha : als2 = als.set (k : Nat) (some (.int x))) (h : q_Ex X d i (pc + 1) als2 st M Q) : q_Ex X d i pc als (.int x :: st) M Q := by
  intro l ρ cA D p e R s m args below meth c cells slots Qw F H locs ls hP hS hl hk
  subst ha
  have h := h l ρ cA D p e R s m args below meth c cells slots Qw F H locs
  refine lv_istore_n F.1 F.2.1 hd rfl hl hn rfl (fun ls2 hl2 => ?_)
  exact h ls2 hP hS (q_lsub hl2 (q_st1 hc)) hk
theorem q_istore {k : Nat} {x : Int32} (als2 : List (Option Value)) (hd : decode (q_mB i) pc = .ok (.istore k, 2)) (hc : q_c1 als (k : Nat) = true) (hn : (k : Nat) < q_mL i) (ha : als2 = als.set (k : Nat) (some (.int x))) (h : q_Ex X d i (pc + 2) als2 st M Q) : q_Ex X d i pc als (.int x :: st) M Q := by
  intro l ρ cA D p e R s m args below meth c cells slots Qw F H locs ls hP hS hl hk
  subst ha
  have h := h l ρ cA D p e R s m args below meth c cells slots Qw F H locs
  refine lv_istore F.1 F.2.1 hd hl hn rfl (fun ls2 hl2 => ?_)
  exact h ls2 hP hS (q_lsub hl2 (q_st1 hc)) hk
theorem q_astore_n {k : Fin 4} {x : Nat} (als2 : List (Option Value)) (hd : decode (q_mB i) pc = .ok (.astore_n k, 1)) (hc : q_c1 als (k : Nat) = true) (hn : (k : Nat) < q_mL i) (ha : als2 = als.set (k : Nat) (some (.ref x))) (h : q_Ex X d i (pc + 1) als2 st M Q) : q_Ex X d i pc als (.ref x :: st) M Q := by
  intro l ρ cA D p e R s m args below meth c cells slots Qw F H locs ls hP hS hl hk
  subst ha
  have h := h l ρ cA D p e R s m args below meth c cells slots Qw F H locs
  refine lv_astore_n F.1 F.2.1 hd rfl hl hn rfl (fun ls2 hl2 => ?_)
  exact h ls2 hP hS (q_lsub hl2 (q_st1 hc)) hk
theorem q_astore {k : Nat} {x : Nat} (als2 : List (Option Value)) (hd : decode (q_mB i) pc = .ok (.astore k, 2)) (hc : q_c1 als (k : Nat) = true) (hn : (k : Nat) < q_mL i) (ha : als2 = als.set (k : Nat) (some (.ref x))) (h : q_Ex X d i (pc + 2) als2 st M Q) : q_Ex X d i pc als (.ref x :: st) M Q := by
  intro l ρ cA D p e R s m args below meth c cells slots Qw F H locs ls hP hS hl hk
  subst ha
  have h := h l ρ cA D p e R s m args below meth c cells slots Qw F H locs
  refine lv_astore F.1 F.2.1 hd hl hn rfl (fun ls2 hl2 => ?_)
  exact h ls2 hP hS (q_lsub hl2 (q_st1 hc)) hk
theorem q_lstore_n {k : Fin 4} {x : Int64} (als2 : List (Option Value)) (hd : decode (q_mB i) pc = .ok (.lstore_n k, 1)) (hc : q_c1 als (k : Nat) = true) (hn : (k : Nat) + 1 < q_mL i) (ha : als2 = (als.set (k : Nat) (some (.long x))).set ((k : Nat) + 1) none) (h : q_Ex X d i (pc + 1) als2 st M Q) : q_Ex X d i pc als (.long x :: st) M Q := by
  intro l ρ cA D p e R s m args below meth c cells slots Qw F H locs ls hP hS hl hk
  subst ha
  have h := h l ρ cA D p e R s m args below meth c cells slots Qw F H locs
  refine lv_lstore_n F.1 F.2.1 hd rfl hl hn rfl (fun ls2 hl2 => ?_)
  exact h ls2 hP hS (q_lsub hl2 (q_st2 hc)) hk
theorem q_lstore {k : Nat} {x : Int64} (als2 : List (Option Value)) (hd : decode (q_mB i) pc = .ok (.lstore k, 2)) (hc : q_c1 als (k : Nat) = true) (hn : (k : Nat) + 1 < q_mL i) (ha : als2 = (als.set (k : Nat) (some (.long x))).set ((k : Nat) + 1) none) (h : q_Ex X d i (pc + 2) als2 st M Q) : q_Ex X d i pc als (.long x :: st) M Q := by
  intro l ρ cA D p e R s m args below meth c cells slots Qw F H locs ls hP hS hl hk
  subst ha
  have h := h l ρ cA D p e R s m args below meth c cells slots Qw F H locs
  refine lv_lstore F.1 F.2.1 hd hl hn rfl (fun ls2 hl2 => ?_)
  exact h ls2 hP hS (q_lsub hl2 (q_st2 hc)) hk
theorem q_mem_at {ρ : Nat → Nat} {als : List (Option Value)} {k : Nat} {v : Value} (h : als[k]? = some (some v)) : ∃ t : Nat, (q_toL ρ 0 als)[t]? = some (k, q_rv ρ v) := by
  have h1 : (k, q_rv ρ v) ∈ q_toL ρ 0 als := (q_toL_mem ρ als 0 _).mpr ⟨k, v, h, by simp⟩
  obtain ⟨t, ht, e⟩ := List.mem_iff_getElem.mp h1
  exact ⟨t, List.getElem?_eq_some_iff.mpr ⟨ht, e⟩⟩
theorem q_iinc {k : Nat} {n : Int} {x v : Int32} (als2 : List (Option Value)) (hd : decode (q_mB i) pc = .ok (.iinc k n, 3)) (hx : als[k]? = some (some (.int x))) (hv : x + Int32.ofInt n = v) (hc : q_c1 als k = true) (hn : k < q_mL i) (ha : als2 = als.set k (some (.int v))) (h : q_Ex X d i (pc + 3) als2 st M Q) : q_Ex X d i pc als st M Q := by
  intro l ρ cA D p e R s m args below meth c cells slots Qw F H locs ls hP hS hl hk
  subst ha
  have h := h l ρ cA D p e R s m args below meth c cells slots Qw F H locs
  obtain ⟨t, ht⟩ := q_mem_at (ρ := ρ) hx
  refine lv_iinc F.1 F.2.1 hd hl ht hv hn rfl (fun ls2 hl2 => ?_)
  exact h ls2 hP hS (q_lsub hl2 (q_st1 hc)) hk
theorem q_iadd {x y : Int32} (hd : decode (q_mB i) pc = .ok (.iadd, 1)) (h : q_Ex X d i (pc + 1) als (.int (x + y) :: st) M Q) : q_Ex X d i pc als (.int y :: .int x :: st) M Q := by
  intro l ρ cA D p e R s m args below meth c cells slots Qw F H locs ls hP hS hl hk
  have h := h l ρ cA D p e R s m args below meth c cells slots Qw F H locs ls hP hS hl hk
  exact lv_iadd F.1 F.2.1 hd h
theorem q_isub {x y : Int32} (hd : decode (q_mB i) pc = .ok (.isub, 1)) (h : q_Ex X d i (pc + 1) als (.int (x - y) :: st) M Q) : q_Ex X d i pc als (.int y :: .int x :: st) M Q := by
  intro l ρ cA D p e R s m args below meth c cells slots Qw F H locs ls hP hS hl hk
  have h := h l ρ cA D p e R s m args below meth c cells slots Qw F H locs ls hP hS hl hk
  exact lv_isub F.1 F.2.1 hd h
theorem q_imul {x y : Int32} (hd : decode (q_mB i) pc = .ok (.imul, 1)) (h : q_Ex X d i (pc + 1) als (.int (x * y) :: st) M Q) : q_Ex X d i pc als (.int y :: .int x :: st) M Q := by
  intro l ρ cA D p e R s m args below meth c cells slots Qw F H locs ls hP hS hl hk
  have h := h l ρ cA D p e R s m args below meth c cells slots Qw F H locs ls hP hS hl hk
  exact lv_imul F.1 F.2.1 hd h
theorem q_iand {x y : Int32} (hd : decode (q_mB i) pc = .ok (.iand, 1)) (h : q_Ex X d i (pc + 1) als (.int (x &&& y) :: st) M Q) : q_Ex X d i pc als (.int y :: .int x :: st) M Q := by
  intro l ρ cA D p e R s m args below meth c cells slots Qw F H locs ls hP hS hl hk
  have h := h l ρ cA D p e R s m args below meth c cells slots Qw F H locs ls hP hS hl hk
  exact lv_iand F.1 F.2.1 hd h
theorem q_ior {x y : Int32} (hd : decode (q_mB i) pc = .ok (.ior, 1)) (h : q_Ex X d i (pc + 1) als (.int (x ||| y) :: st) M Q) : q_Ex X d i pc als (.int y :: .int x :: st) M Q := by
  intro l ρ cA D p e R s m args below meth c cells slots Qw F H locs ls hP hS hl hk
  have h := h l ρ cA D p e R s m args below meth c cells slots Qw F H locs ls hP hS hl hk
  exact lv_ior F.1 F.2.1 hd h
theorem q_ixor {x y : Int32} (hd : decode (q_mB i) pc = .ok (.ixor, 1)) (h : q_Ex X d i (pc + 1) als (.int (x ^^^ y) :: st) M Q) : q_Ex X d i pc als (.int y :: .int x :: st) M Q := by
  intro l ρ cA D p e R s m args below meth c cells slots Qw F H locs ls hP hS hl hk
  have h := h l ρ cA D p e R s m args below meth c cells slots Qw F H locs ls hP hS hl hk
  exact lv_ixor F.1 F.2.1 hd h
theorem q_ishl {x y : Int32} (hd : decode (q_mB i) pc = .ok (.ishl, 1)) (h : q_Ex X d i (pc + 1) als (.int (x <<< (y &&& 31)) :: st) M Q) : q_Ex X d i pc als (.int y :: .int x :: st) M Q := by
  intro l ρ cA D p e R s m args below meth c cells slots Qw F H locs ls hP hS hl hk
  have h := h l ρ cA D p e R s m args below meth c cells slots Qw F H locs ls hP hS hl hk
  exact lv_ishl F.1 F.2.1 hd h
theorem q_ishr {x y : Int32} (hd : decode (q_mB i) pc = .ok (.ishr, 1)) (h : q_Ex X d i (pc + 1) als (.int (x >>> (y &&& 31)) :: st) M Q) : q_Ex X d i pc als (.int y :: .int x :: st) M Q := by
  intro l ρ cA D p e R s m args below meth c cells slots Qw F H locs ls hP hS hl hk
  have h := h l ρ cA D p e R s m args below meth c cells slots Qw F H locs ls hP hS hl hk
  exact lv_ishr F.1 F.2.1 hd h
theorem q_iushr {x y : Int32} (hd : decode (q_mB i) pc = .ok (.iushr, 1)) (h : q_Ex X d i (pc + 1) als (.int (x.toUInt32 >>> (y.toUInt32 &&& Int32.toUInt32 31)).toInt32 :: st) M Q) : q_Ex X d i pc als (.int y :: .int x :: st) M Q := by
  intro l ρ cA D p e R s m args below meth c cells slots Qw F H locs ls hP hS hl hk
  have h := h l ρ cA D p e R s m args below meth c cells slots Qw F H locs ls hP hS hl hk
  exact lv_iushr F.1 F.2.1 hd rfl h
theorem q_ineg {x : Int32} (hd : decode (q_mB i) pc = .ok (.ineg, 1)) (h : q_Ex X d i (pc + 1) als (.int (-x) :: st) M Q) : q_Ex X d i pc als (.int x :: st) M Q := by
  intro l ρ cA D p e R s m args below meth c cells slots Qw F H locs ls hP hS hl hk
  have h := h l ρ cA D p e R s m args below meth c cells slots Qw F H locs ls hP hS hl hk
  exact lv_ineg F.1 F.2.1 hd h
theorem q_idiv {x y : Int32} (hd : decode (q_mB i) pc = .ok (.idiv, 1)) (hne : ¬ y = 0) (h : q_Ex X d i (pc + 1) als (.int (x / y) :: st) M Q) : q_Ex X d i pc als (.int y :: .int x :: st) M Q := by
  intro l ρ cA D p e R s m args below meth c cells slots Qw F H locs ls hP hS hl hk
  have h := h l ρ cA D p e R s m args below meth c cells slots Qw F H locs ls hP hS hl hk
  exact lv_idiv F.1 F.2.1 hd hne h
theorem q_irem {x y : Int32} (hd : decode (q_mB i) pc = .ok (.irem, 1)) (hne : ¬ y = 0) (h : q_Ex X d i (pc + 1) als (.int (x - x / y * y) :: st) M Q) : q_Ex X d i pc als (.int y :: .int x :: st) M Q := by
  intro l ρ cA D p e R s m args below meth c cells slots Qw F H locs ls hP hS hl hk
  have h := h l ρ cA D p e R s m args below meth c cells slots Qw F H locs ls hP hS hl hk
  exact lv_irem F.1 F.2.1 hd hne h
theorem q_lmul {x y : Int64} (hd : decode (q_mB i) pc = .ok (.lmul, 1)) (h : q_Ex X d i (pc + 1) als (.long (x * y) :: st) M Q) : q_Ex X d i pc als (.long y :: .long x :: st) M Q := by
  intro l ρ cA D p e R s m args below meth c cells slots Qw F H locs ls hP hS hl hk
  have h := h l ρ cA D p e R s m args below meth c cells slots Qw F H locs ls hP hS hl hk
  exact lv_lmul F.1 F.2.1 hd h
theorem q_ldiv {x y : Int64} (hd : decode (q_mB i) pc = .ok (.ldiv, 1)) (hne : ¬ y = 0) (h : q_Ex X d i (pc + 1) als (.long (x / y) :: st) M Q) : q_Ex X d i pc als (.long y :: .long x :: st) M Q := by
  intro l ρ cA D p e R s m args below meth c cells slots Qw F H locs ls hP hS hl hk
  have h := h l ρ cA D p e R s m args below meth c cells slots Qw F H locs ls hP hS hl hk
  exact lv_ldiv F.1 F.2.1 hd hne h
theorem q_lcmp {x y : Int64} (hd : decode (q_mB i) pc = .ok (.lcmp, 1)) (h : q_Ex X d i (pc + 1) als (.int (lg_cmp x y) :: st) M Q) : q_Ex X d i pc als (.long y :: .long x :: st) M Q := by
  intro l ρ cA D p e R s m args below meth c cells slots Qw F H locs ls hP hS hl hk
  have h := h l ρ cA D p e R s m args below meth c cells slots Qw F H locs ls hP hS hl hk
  exact W.lcmp F.1 F.2.1 hd h
theorem q_i2l {x : Int32} (hd : decode (q_mB i) pc = .ok (.i2l, 1)) (h : q_Ex X d i (pc + 1) als (.long x.toInt64 :: st) M Q) : q_Ex X d i pc als (.int x :: st) M Q := by
  intro l ρ cA D p e R s m args below meth c cells slots Qw F H locs ls hP hS hl hk
  have h := h l ρ cA D p e R s m args below meth c cells slots Qw F H locs ls hP hS hl hk
  exact lv_i2l F.1 F.2.1 hd rfl h
theorem q_l2i {x : Int64} (hd : decode (q_mB i) pc = .ok (.l2i, 1)) (h : q_Ex X d i (pc + 1) als (.int x.toInt32 :: st) M Q) : q_Ex X d i pc als (.long x :: st) M Q := by
  intro l ρ cA D p e R s m args below meth c cells slots Qw F H locs ls hP hS hl hk
  have h := h l ρ cA D p e R s m args below meth c cells slots Qw F H locs ls hP hS hl hk
  exact lv_l2i F.1 F.2.1 hd rfl h
theorem q_dup {v : Value} (hd : decode (q_mB i) pc = .ok (.dup, 1)) (hv : v.category = 1) (h : q_Ex X d i (pc + 1) als (v :: v :: st) M Q) : q_Ex X d i pc als (v :: st) M Q := by
  intro l ρ cA D p e R s m args below meth c cells slots Qw F H locs ls hP hS hl hk
  have h := h l ρ cA D p e R s m args below meth c cells slots Qw F H locs ls hP hS hl hk
  exact lv_dup F.1 F.2.1 hd (by rw [q_rv_cat]; exact hv) h
theorem q_pop {v : Value} (hd : decode (q_mB i) pc = .ok (.pop, 1)) (hv : v.category = 1) (h : q_Ex X d i (pc + 1) als (st) M Q) : q_Ex X d i pc als (v :: st) M Q := by
  intro l ρ cA D p e R s m args below meth c cells slots Qw F H locs ls hP hS hl hk
  have h := h l ρ cA D p e R s m args below meth c cells slots Qw F H locs ls hP hS hl hk
  exact lv_pop F.1 F.2.1 hd (by rw [q_rv_cat]; exact hv) h
theorem q_dup2 {v w : Value} (hd : decode (q_mB i) pc = .ok (.dup2, 1)) (hv : v.category = 1) (hw : w.category = 1) (h : q_Ex X d i (pc + 1) als (v :: w :: v :: w :: st) M Q) : q_Ex X d i pc als (v :: w :: st) M Q := by
  intro l ρ cA D p e R s m args below meth c cells slots Qw F H locs ls hP hS hl hk
  have h := h l ρ cA D p e R s m args below meth c cells slots Qw F H locs ls hP hS hl hk
  exact lv_dup2_11 F.1 F.2.1 hd (by rw [q_rv_cat]; exact hv) (by rw [q_rv_cat]; exact hw) h
theorem q_if_eq {x : Int32} {off : Int} (tgt : Nat) (hd : decode (q_mB i) pc = .ok (.ifCond .eq off, 3)) (ht : (pc : Int) + off = (tgt : Int)) (h1 : x = 0 → q_Ex X d i tgt als st M Q) (h2 : ¬ x = 0 → q_Ex X d i (pc + 3) als st M Q) : q_Ex X d i pc als (.int x :: st) M Q := by
  intro l ρ cA D p e R s m args below meth c cells slots Qw F H locs ls hP hS hl hk
  exact lv_if_eq F.1 F.2.1 hd ht (fun a => h1 a l ρ cA D p e R s m args below meth c cells slots Qw F H locs ls hP hS hl hk) (fun a => h2 a l ρ cA D p e R s m args below meth c cells slots Qw F H locs ls hP hS hl hk)
theorem q_icmp_eq {x y : Int32} {off : Int} (tgt : Nat) (hd : decode (q_mB i) pc = .ok (.if_icmp .eq off, 3)) (ht : (pc : Int) + off = (tgt : Int)) (h1 : x = y → q_Ex X d i tgt als st M Q) (h2 : ¬ x = y → q_Ex X d i (pc + 3) als st M Q) : q_Ex X d i pc als (.int y :: .int x :: st) M Q := by
  intro l ρ cA D p e R s m args below meth c cells slots Qw F H locs ls hP hS hl hk
  exact lv_icmp_eq F.1 F.2.1 hd ht (fun a => h1 a l ρ cA D p e R s m args below meth c cells slots Qw F H locs ls hP hS hl hk) (fun a => h2 a l ρ cA D p e R s m args below meth c cells slots Qw F H locs ls hP hS hl hk)
theorem q_if_ne {x : Int32} {off : Int} (tgt : Nat) (hd : decode (q_mB i) pc = .ok (.ifCond .ne off, 3)) (ht : (pc : Int) + off = (tgt : Int)) (h1 : ¬ x = 0 → q_Ex X d i tgt als st M Q) (h2 : x = 0 → q_Ex X d i (pc + 3) als st M Q) : q_Ex X d i pc als (.int x :: st) M Q := by
  intro l ρ cA D p e R s m args below meth c cells slots Qw F H locs ls hP hS hl hk
  exact lv_if_ne F.1 F.2.1 hd ht (fun a => h1 a l ρ cA D p e R s m args below meth c cells slots Qw F H locs ls hP hS hl hk) (fun a => h2 a l ρ cA D p e R s m args below meth c cells slots Qw F H locs ls hP hS hl hk)
theorem q_icmp_ne {x y : Int32} {off : Int} (tgt : Nat) (hd : decode (q_mB i) pc = .ok (.if_icmp .ne off, 3)) (ht : (pc : Int) + off = (tgt : Int)) (h1 : ¬ x = y → q_Ex X d i tgt als st M Q) (h2 : x = y → q_Ex X d i (pc + 3) als st M Q) : q_Ex X d i pc als (.int y :: .int x :: st) M Q := by
  intro l ρ cA D p e R s m args below meth c cells slots Qw F H locs ls hP hS hl hk
  exact lv_icmp_ne F.1 F.2.1 hd ht (fun a => h1 a l ρ cA D p e R s m args below meth c cells slots Qw F H locs ls hP hS hl hk) (fun a => h2 a l ρ cA D p e R s m args below meth c cells slots Qw F H locs ls hP hS hl hk)
theorem q_if_lt {x : Int32} {off : Int} (tgt : Nat) (hd : decode (q_mB i) pc = .ok (.ifCond .lt off, 3)) (ht : (pc : Int) + off = (tgt : Int)) (h1 : x < 0 → q_Ex X d i tgt als st M Q) (h2 : ¬ x < 0 → q_Ex X d i (pc + 3) als st M Q) : q_Ex X d i pc als (.int x :: st) M Q := by
  intro l ρ cA D p e R s m args below meth c cells slots Qw F H locs ls hP hS hl hk
  exact lv_if_lt F.1 F.2.1 hd ht (fun a => h1 a l ρ cA D p e R s m args below meth c cells slots Qw F H locs ls hP hS hl hk) (fun a => h2 a l ρ cA D p e R s m args below meth c cells slots Qw F H locs ls hP hS hl hk)
theorem q_icmp_lt {x y : Int32} {off : Int} (tgt : Nat) (hd : decode (q_mB i) pc = .ok (.if_icmp .lt off, 3)) (ht : (pc : Int) + off = (tgt : Int)) (h1 : x < y → q_Ex X d i tgt als st M Q) (h2 : ¬ x < y → q_Ex X d i (pc + 3) als st M Q) : q_Ex X d i pc als (.int y :: .int x :: st) M Q := by
  intro l ρ cA D p e R s m args below meth c cells slots Qw F H locs ls hP hS hl hk
  exact lv_icmp_lt F.1 F.2.1 hd ht (fun a => h1 a l ρ cA D p e R s m args below meth c cells slots Qw F H locs ls hP hS hl hk) (fun a => h2 a l ρ cA D p e R s m args below meth c cells slots Qw F H locs ls hP hS hl hk)
theorem q_if_ge {x : Int32} {off : Int} (tgt : Nat) (hd : decode (q_mB i) pc = .ok (.ifCond .ge off, 3)) (ht : (pc : Int) + off = (tgt : Int)) (h1 : 0 ≤ x → q_Ex X d i tgt als st M Q) (h2 : ¬ 0 ≤ x → q_Ex X d i (pc + 3) als st M Q) : q_Ex X d i pc als (.int x :: st) M Q := by
  intro l ρ cA D p e R s m args below meth c cells slots Qw F H locs ls hP hS hl hk
  exact lv_if_ge F.1 F.2.1 hd ht (fun a => h1 a l ρ cA D p e R s m args below meth c cells slots Qw F H locs ls hP hS hl hk) (fun a => h2 a l ρ cA D p e R s m args below meth c cells slots Qw F H locs ls hP hS hl hk)
theorem q_icmp_ge {x y : Int32} {off : Int} (tgt : Nat) (hd : decode (q_mB i) pc = .ok (.if_icmp .ge off, 3)) (ht : (pc : Int) + off = (tgt : Int)) (h1 : y ≤ x → q_Ex X d i tgt als st M Q) (h2 : ¬ y ≤ x → q_Ex X d i (pc + 3) als st M Q) : q_Ex X d i pc als (.int y :: .int x :: st) M Q := by
  intro l ρ cA D p e R s m args below meth c cells slots Qw F H locs ls hP hS hl hk
  exact lv_icmp_ge F.1 F.2.1 hd ht (fun a => h1 a l ρ cA D p e R s m args below meth c cells slots Qw F H locs ls hP hS hl hk) (fun a => h2 a l ρ cA D p e R s m args below meth c cells slots Qw F H locs ls hP hS hl hk)
theorem q_if_gt {x : Int32} {off : Int} (tgt : Nat) (hd : decode (q_mB i) pc = .ok (.ifCond .gt off, 3)) (ht : (pc : Int) + off = (tgt : Int)) (h1 : 0 < x → q_Ex X d i tgt als st M Q) (h2 : ¬ 0 < x → q_Ex X d i (pc + 3) als st M Q) : q_Ex X d i pc als (.int x :: st) M Q := by
  intro l ρ cA D p e R s m args below meth c cells slots Qw F H locs ls hP hS hl hk
  exact lv_if_gt F.1 F.2.1 hd ht (fun a => h1 a l ρ cA D p e R s m args below meth c cells slots Qw F H locs ls hP hS hl hk) (fun a => h2 a l ρ cA D p e R s m args below meth c cells slots Qw F H locs ls hP hS hl hk)
theorem q_icmp_gt {x y : Int32} {off : Int} (tgt : Nat) (hd : decode (q_mB i) pc = .ok (.if_icmp .gt off, 3)) (ht : (pc : Int) + off = (tgt : Int)) (h1 : y < x → q_Ex X d i tgt als st M Q) (h2 : ¬ y < x → q_Ex X d i (pc + 3) als st M Q) : q_Ex X d i pc als (.int y :: .int x :: st) M Q := by
  intro l ρ cA D p e R s m args below meth c cells slots Qw F H locs ls hP hS hl hk
  exact lv_icmp_gt F.1 F.2.1 hd ht (fun a => h1 a l ρ cA D p e R s m args below meth c cells slots Qw F H locs ls hP hS hl hk) (fun a => h2 a l ρ cA D p e R s m args below meth c cells slots Qw F H locs ls hP hS hl hk)
theorem q_if_le {x : Int32} {off : Int} (tgt : Nat) (hd : decode (q_mB i) pc = .ok (.ifCond .le off, 3)) (ht : (pc : Int) + off = (tgt : Int)) (h1 : x ≤ 0 → q_Ex X d i tgt als st M Q) (h2 : ¬ x ≤ 0 → q_Ex X d i (pc + 3) als st M Q) : q_Ex X d i pc als (.int x :: st) M Q := by
  intro l ρ cA D p e R s m args below meth c cells slots Qw F H locs ls hP hS hl hk
  exact lv_if_le F.1 F.2.1 hd ht (fun a => h1 a l ρ cA D p e R s m args below meth c cells slots Qw F H locs ls hP hS hl hk) (fun a => h2 a l ρ cA D p e R s m args below meth c cells slots Qw F H locs ls hP hS hl hk)
theorem q_icmp_le {x y : Int32} {off : Int} (tgt : Nat) (hd : decode (q_mB i) pc = .ok (.if_icmp .le off, 3)) (ht : (pc : Int) + off = (tgt : Int)) (h1 : x ≤ y → q_Ex X d i tgt als st M Q) (h2 : ¬ x ≤ y → q_Ex X d i (pc + 3) als st M Q) : q_Ex X d i pc als (.int y :: .int x :: st) M Q := by
  intro l ρ cA D p e R s m args below meth c cells slots Qw F H locs ls hP hS hl hk
  exact lv_icmp_le F.1 F.2.1 hd ht (fun a => h1 a l ρ cA D p e R s m args below meth c cells slots Qw F H locs ls hP hS hl hk) (fun a => h2 a l ρ cA D p e R s m args below meth c cells slots Qw F H locs ls hP hS hl hk)
theorem q_goto {off : Int} (tgt : Nat) (hd : decode (q_mB i) pc = .ok (.goto off, 3)) (ht : (pc : Int) + off = (tgt : Int)) (h : q_Ex X d i tgt als st M Q) : q_Ex X d i pc als st M Q := by
  intro l ρ cA D p e R s m args below meth c cells slots Qw F H locs ls hP hS hl hk
  exact lv_goto F.1 F.2.1 hd ht (h l ρ cA D p e R s m args below meth c cells slots Qw F H locs ls hP hS hl hk)
theorem q_tsOut {dflt lo hi : Int} {offs : Array Int} {len : Nat} {x : Int32} (tgt : Nat) (hd : decode (q_mB i) pc = .ok (.tableswitch dflt lo hi offs, len)) (hx : x.toInt < lo ∨ hi < x.toInt) (ht : (pc : Int) + dflt = (tgt : Int)) (h : q_Ex X d i tgt als st M Q) : q_Ex X d i pc als (.int x :: st) M Q := by
  intro l ρ cA D p e R s m args below meth c cells slots Qw F H locs ls hP hS hl hk
  exact lv_tableOut F.1 F.2.1 hd hx ht (h l ρ cA D p e R s m args below meth c cells slots Qw F H locs ls hP hS hl hk)
theorem q_tsIn {dflt lo hi : Int} {offs : Array Int} {len : Nat} {x : Int32} {off : Int} (tgt : Nat) (hd : decode (q_mB i) pc = .ok (.tableswitch dflt lo hi offs, len)) (h1 : ¬ x.toInt < lo) (h2 : ¬ hi < x.toInt) (ho : offs[(x.toInt - lo).toNat]? = some off) (ht : (pc : Int) + off = (tgt : Int)) (h : q_Ex X d i tgt als st M Q) : q_Ex X d i pc als (.int x :: st) M Q := by
  intro l ρ cA D p e R s m args below meth c cells slots Qw F H locs ls hP hS hl hk
  exact lv_tableIn F.1 F.2.1 hd h1 h2 ho ht (h l ρ cA D p e R s m args below meth c cells slots Qw F H locs ls hP hS hl hk)
theorem q_forget (als2 : List (Option Value)) (ha : ∀ (k : Nat) (v : Value), als2[k]? = some (some v) → als[k]? = some (some v)) (h : q_Ex X d i pc als2 st M Q) : q_Ex X d i pc als st M Q := by
  intro l ρ cA D p e R s m args below meth c cells slots Qw F H locs ls hP hS hl hk
  refine h l ρ cA D p e R s m args below meth c cells slots Qw F H locs ls hP hS (q_lsub hl (fun q hq => ?_)) hk
  obtain ⟨k, v, h1, h2⟩ := (q_toL_mem ρ als2 0 q).mp hq
  exact (q_toL_mem ρ als 0 q).mpr ⟨k, v, ha k v h1, h2⟩
theorem q_mono {Q2 : Option Value → q_M → Prop} (h : q_Ex X d i pc als st M Q) (hq : ∀ v M, Q v M → Q2 v M) : q_Ex X d i pc als st M Q2 := by
  intro l ρ cA D p e R s m args below meth c cells slots Qw F H locs ls hP hS hl hk
  exact h l ρ cA D p e R s m args below meth c cells slots Qw F H locs ls hP hS hl (fun v M' H' locs' pc' ls' hQ => hk v M' H' locs' pc' ls' (hq v M' hQ))
theorem q_ireturn {x : Int32} (hd : decode (q_mB i) pc = .ok (.ireturn, 1)) (hr : q_mR i = some .int) (h : Q (some (.int x)) M) : q_Ex X d i pc als [.int x] M Q := by
  intro l ρ cA D p e R s m args below meth c cells slots Qw F H locs ls hP hS hl hk
  exact hk (some (.int x)) M H locs pc ls h hP hS (Or.inl ⟨x, rfl, hd, Or.inl hr⟩)
theorem q_zreturn {x : Int32} (hd : decode (q_mB i) pc = .ok (.ireturn, 1)) (hr : q_mR i = some .boolean) (hx : x = 0 ∨ x = 1) (h : Q (some (.int x)) M) : q_Ex X d i pc als [.int x] M Q := by
  intro l ρ cA D p e R s m args below meth c cells slots Qw F H locs ls hP hS hl hk
  exact hk (some (.int x)) M H locs pc ls h hP hS (Or.inl ⟨x, rfl, hd, Or.inr ⟨hr, hx⟩⟩)
theorem q_return (hd : decode (q_mB i) pc = .ok (.return_, 1)) (hr : q_mR i = none) (h : Q none M) : q_Ex X d i pc als [] M Q := by
  intro l ρ cA D p e R s m args below meth c cells slots Qw F H locs ls hP hS hl hk
  exact hk none M H locs pc ls h hP hS (Or.inr (Or.inl ⟨rfl, hd, hr⟩))
theorem q_areturn {k : Nat} {C : String} (hd : decode (q_mB i) pc = .ok (.areturn, 1)) (hr : q_mR i = some (.object C)) (h : Q (some (.ref k)) M) : q_Ex X d i pc als [.ref k] M Q := by
  intro l ρ cA D p e R s m args below meth c cells slots Qw F H locs ls hP hS hl hk
  exact hk (some (.ref k)) M H locs pc ls h hP hS (Or.inr (Or.inr ⟨k, C, rfl, hd, hr⟩))
/-! fields -/
def q_fok (i idx ci k : Nat) : Prop := ∃ (C : String) (T : u_T) (N : Nat), q_cl[ci]? = some (C, T, N) ∧ (∀ w ∈ u_ws C T N, w ∈ goodTbl) ∧ k < N ∧ (T k).1 = C ∧ Cond.fieldLink (q_mY i).cls idx C (T k).2.1 (T k).2.2.1 ∈ goodTbl
def q_pok (i idx ci k : Nat) (ty : FieldType) : Prop := ∃ (C : String) (T : u_T) (N : Nat) (ty0 : Nat → FieldType), q_cl[ci]? = some (C, T, N) ∧ (∀ w ∈ u_ws C T N, w ∈ goodTbl) ∧ k < N ∧ (T k).1 = C ∧ Cond.fieldLink (q_mY i).cls idx C (T k).2.1 (T k).2.2.1 ∈ goodTbl ∧ (∀ k, k < N → parseFieldDescriptor (T k).2.2.1 = some (ty0 k)) ∧ (∀ a, a < N → ∀ b, b < N → a ≠ b → (T a).2.1 ≠ (T b).2.1) ∧ (T k).2.2.2 = false ∧ ty0 k = ty
def q_vl (x : Int32) : Option Nat → Value
  | none => .int x
  | some t => .ref t
theorem q_get {idx ci k r : Nat} {fs : List (Option Nat)} {f : Option Nat} (hd : decode (q_mB i) pc = .ok (.getfield idx, 3)) (hf : q_fok i idx ci k) (hr : q_lay[r]? = some (.inl (ci, fs))) (hk' : fs[k]? = some f) (h : q_Ex X d i (pc + 3) als (q_vl (M r k) f :: st) M Q) : q_Ex X d i pc als (.ref r :: st) M Q := by
  intro l ρ cA D p e R s m args below meth c cells slots Qw F H locs ls hP hS hl hk
  have h := h l ρ cA D p e R s m args below meth c cells slots Qw F H locs ls hP hS hl hk
  obtain ⟨C, T, N, h1, h2, h3, h4, h5⟩ := hf
  refine va_get F.1 F.2.1 F.2.2.2.2.1 h2 F.2.2.2.1 F.2.2.2.2.2.2.1.1 hP r (q_wld_at hr) h1 k h3 (F.2.2.2.2.1 _ h5) (fun x hx => by rw [h4] at hx; exact hx) (v := q_rv ρ (q_vl (M r k) f)) ?_ hd h
  have := q_fv_get ρ (M r) fs 0 k f hk'
  rw [Nat.zero_add] at this
  rw [this]
  cases f <;> rfl
theorem q_getI {idx ci k r : Nat} {fs : List (Option Nat)} (hd : decode (q_mB i) pc = .ok (.getfield idx, 3)) (hf : q_fok i idx ci k) (hr : q_lay[r]? = some (.inl (ci, fs))) (hk' : fs[k]? = some none) (h : q_Ex X d i (pc + 3) als (.int (M r k) :: st) M Q) : q_Ex X d i pc als (.ref r :: st) M Q := q_get hd hf hr hk' h
theorem q_getR {idx ci k r t : Nat} {fs : List (Option Nat)} (hd : decode (q_mB i) pc = .ok (.getfield idx, 3)) (hf : q_fok i idx ci k) (hr : q_lay[r]? = some (.inl (ci, fs))) (hk' : fs[k]? = some (some t)) (h : q_Ex X d i (pc + 3) als (.ref t :: st) M Q) : q_Ex X d i pc als (.ref r :: st) M Q := q_get hd hf hr hk' h
theorem q_put {idx ci k r : Nat} {fs : List (Option Nat)} {x : Int32} {ty : FieldType} (hd : decode (q_mB i) pc = .ok (.putfield idx, 3)) (hf : q_pok i idx ci k ty) (hr : q_lay[r]? = some (.inl (ci, fs))) (hk' : fs[k]? = some none) (hn : narrow ty (.int x) = .int x) (hfit : fits ty (.int x) = true) (h : q_Ex X d i (pc + 3) als st (q_set M r k x) Q) : q_Ex X d i pc als (.int x :: .ref r :: st) M Q := by
  intro l ρ cA D p e R s m args below meth c cells slots Qw F H locs ls hP hS hl hk
  have h := h l ρ cA D p e R s m args below meth c cells slots Qw F
  obtain ⟨C, T, N, ty0, h1, h2, h3, h4, h5, h6, h7, h8, h9⟩ := hf
  refine va_put F.1 F.2.1 F.2.2.2.2.1 h2 ty0 h6 h7 F.2.2.2.1 F.2.2.2.2.2.2.1.1 hP (q_D F.2.2.2.2.2.2.2.2.2 cA M) hS r (q_wld_at hr) h1 k h3 (F.2.2.2.2.1 _ h5) (fun x hx => by rw [h4] at hx; exact hx) h8 (ty := ty) (by rw [h6 k h3, h9]) hn hfit (by rw [q_fv_len]; exact (List.getElem?_eq_some_iff.mp hk').1) hd (fun H1 locs1 hP1 _ hS1 => ?_)
  rw [q_wld_row (f := upd (M r) k x) hr (by
    show _ = Sum.inr (ci, q_fv ρ (q_row M r (upd (M r) k x) r) 0 fs)
    show Sum.inr (ci, (q_fv ρ (M r) 0 fs).set k (.int x)) = _
    rw [q_row_s, q_fv_set ρ (M r) x fs 0 k hk', Nat.zero_add])] at hP1
  exact h H1 locs1 ls hP1 hS1 hl hk
theorem q_putI {idx ci k r : Nat} {fs : List (Option Nat)} {x : Int32} (hd : decode (q_mB i) pc = .ok (.putfield idx, 3)) (hf : q_pok i idx ci k .int) (hr : q_lay[r]? = some (.inl (ci, fs))) (hk' : fs[k]? = some none) (h : q_Ex X d i (pc + 3) als st (q_set M r k x) Q) : q_Ex X d i pc als (.int x :: .ref r :: st) M Q := q_put hd hf hr hk' rfl rfl h
theorem q_putZ {idx ci k r : Nat} {fs : List (Option Nat)} {x : Int32} (hd : decode (q_mB i) pc = .ok (.putfield idx, 3)) (hf : q_pok i idx ci k .boolean) (hr : q_lay[r]? = some (.inl (ci, fs))) (hk' : fs[k]? = some none) (hx : x = 0 ∨ x = 1) (h : q_Ex X d i (pc + 3) als st (q_set M r k x) Q) : q_Ex X d i pc als (.int x :: .ref r :: st) M Q := q_put hd hf hr hk' (by rcases hx with rfl | rfl <;> decide) (by rcases hx with rfl | rfl <;> rfl) h
theorem q_gets {idx j : Nat} (hd : decode (q_mB i) pc = .ok (.getstatic idx, 3)) (hj : j < 3) (hw : Cond.fieldLink (q_mY i).cls idx "NeverCross" (q_sn j) "[I" ∈ goodTbl) (h : q_Ex X d i (pc + 3) als (.ref (1000 + j) :: st) M Q) : q_Ex X d i pc als st M Q := by
  intro l ρ cA D p e R s m args below meth c cells slots Qw F H locs ls hP hS hl hk
  exact va_gets F.1 F.2.1 (F.2.2.2.2.2.2.2.2.1.2 j hj) hS F.2.2.2.1 (F.2.2.2.2.1 _ hw) (fun x hx => hx) hd (h l ρ cA D p e R s m args below meth c cells slots Qw F H locs ls hP hS hl hk)
theorem q_getsN {idx j : Nat} (hd : decode (q_mB i) pc = .ok (.getstatic idx, 3)) (hj : j < 3) (hw : ∀ U, q_Nw U → va_Nw (.fieldLinkNest (q_mY i).cls idx "NeverCross" (q_sn j) "[I" "NeverCross") U) (h : q_Ex X d i (pc + 3) als (.ref (1000 + j) :: st) M Q) : q_Ex X d i pc als st M Q := by
  intro l ρ cA D p e R s m args below meth c cells slots Qw F H locs ls hP hS hl hk
  exact va_getsN F.1 F.2.1 (F.2.2.2.2.2.2.2.2.1.2 j hj) hS F.2.2.2.1 (va_Nw.use rfl (hw s F.2.2.2.2.2.2.2.1)) (fun x hx => hx) hd (h l ρ cA D p e R s m args below meth c cells slots Qw F H locs ls hP hS hl hk)
/-! arrays -/
theorem q_aty_i {r n : Nat} (hr : q_lay[r]? = some (.inr (.inl n))) : q_aty r = some .int := by unfold q_aty; rw [hr]
theorem q_iald {r n : Nat} {x : Int32} (hd : decode (q_mB i) pc = .ok (.iaload, 1)) (hr : q_lay[r]? = some (.inr (.inl n))) (hx : vp_in x n) (h : q_Ex X d i (pc + 1) als (.int (M r x.toNatClampNeg) :: st) M Q) : q_Ex X d i pc als (.int x :: .ref r :: st) M Q := by
  intro l ρ cA D p e R s m args below meth c cells slots Qw F H locs ls hP hS hl hk
  exact va_iald F.1 F.2.1 (F.2.2.2.2.2.2.1.2 r .int (q_aty_i hr)) hP r 0 (q_wld_at hr) rfl hx hd (h l ρ cA D p e R s m args below meth c cells slots Qw F H locs ls hP hS hl hk)
theorem q_iast {r n : Nat} {x y : Int32} (hd : decode (q_mB i) pc = .ok (.iastore, 1)) (hr : q_lay[r]? = some (.inr (.inl n))) (hx : vp_in x n) (h : q_Ex X d i (pc + 1) als st (q_set M r x.toNatClampNeg y) Q) : q_Ex X d i pc als (.int y :: .int x :: .ref r :: st) M Q := by
  intro l ρ cA D p e R s m args below meth c cells slots Qw F H locs ls hP hS hl hk
  have h := h l ρ cA D p e R s m args below meth c cells slots Qw F
  refine va_iast F.1 F.2.1 (F.2.2.2.2.2.2.1.2 r .int (q_aty_i hr)) hP (q_D F.2.2.2.2.2.2.2.2.2 cA M) hS r 0 (q_wld_at hr) rfl hx hd (fun H1 locs1 hP1 _ hS1 => ?_)
  rw [q_wld_row (f := upd (M r) x.toNatClampNeg y) hr (by
    show _ = Sum.inl (cA r, n, Sum.inl (q_row M r (upd (M r) x.toNatClampNeg y) r))
    rw [q_row_s])] at hP1
  exact h H1 locs1 ls hP1 hS1 hl hk
theorem q_alen {r n : Nat} {v : Int32} (hd : decode (q_mB i) pc = .ok (.arraylength, 1)) (hr : q_lay[r]? = some (.inr (.inl n))) (hv : Int32.ofNat n = v) (h : q_Ex X d i (pc + 1) als (.int v :: st) M Q) : q_Ex X d i pc als (.ref r :: st) M Q := by
  intro l ρ cA D p e R s m args below meth c cells slots Qw F H locs ls hP hS hl hk
  exact va_alen F.1 F.2.1 (F.2.2.2.2.2.2.1.2 r .int (q_aty_i hr)) hP r 0 (q_wld_at hr) rfl hv hd (h l ρ cA D p e R s m args below meth c cells slots Qw F H locs ls hP hS hl hk)
theorem q_alenR {r b n : Nat} {v : Int32} (hd : decode (q_mB i) pc = .ok (.arraylength, 1)) (hr : q_lay[r]? = some (.inr (.inr (b, n)))) (hv : Int32.ofNat n = v) (h : q_Ex X d i (pc + 1) als (.int v :: st) M Q) : q_Ex X d i pc als (.ref r :: st) M Q := by
  intro l ρ cA D p e R s m args below meth c cells slots Qw F H locs ls hP hS hl hk
  have ha : q_aty r = some (if b = 39 then .object "NeverCross$Law" else .array .int) := by unfold q_aty; rw [hr]
  exact va_alen F.1 F.2.1 (F.2.2.2.2.2.2.1.2 r _ ha) hP r 0 (q_wld_at hr) rfl hv hd (h l ρ cA D p e R s m args below meth c cells slots Qw F H locs ls hP hS hl hk)
theorem q_aald {r b n : Nat} {x : Int32} (hd : decode (q_mB i) pc = .ok (.aaload, 1)) (hr : q_lay[r]? = some (.inr (.inr (b, n)))) (hx : vp_in x n) (h : q_Ex X d i (pc + 1) als (.ref (b + x.toNatClampNeg) :: st) M Q) : q_Ex X d i pc als (.int x :: .ref r :: st) M Q := by
  intro l ρ cA D p e R s m args below meth c cells slots Qw F H locs ls hP hS hl hk
  have h := h l ρ cA D p e R s m args below meth c cells slots Qw F H locs ls hP hS hl hk
  have ha : q_aty r = some (if b = 39 then .object "NeverCross$Law" else .array .int) := by unfold q_aty; rw [hr]
  have hlt : x.toNatClampNeg < n := Nat.not_le.mp fun q => hx (Or.inr q)
  refine W.aald (v := .ref (ρ (b + x.toNatClampNeg))) F.1 F.2.1 (hP r _ (q_wld_at hr)) (((F.2.2.2.2.2.2.1.2 r _ ha).2 0 _ rfl).1 n (fun j => va_rf (some (ρ (b + j))))) (by split <;> rfl) (fun q => by cases q) (by show ¬ (x < 0 ∨ (arrV _ _ _).slots.size ≤ _); rw [arrV_size]; exact hx) (by show (arrV _ _ _).slots[_]? = _; rw [arrV_read _ _ hlt]; rfl) rfl rfl hd h
theorem q_rald {j : Nat} {x : Int32} (hd : decode (q_mB i) pc = .ok (.iaload, 1)) (hj : j < 4) (hx : vp_in x (q_rc X j).1) (h : q_Ex X d i (pc + 1) als (.int ((q_rc X j).2 x.toNatClampNeg) :: st) M Q) : q_Ex X d i pc als (.int x :: .ref (1000 + j) :: st) M Q := by
  intro l ρ cA D p e R s m args below meth c cells slots Qw F H locs ls hP hS hl hk
  exact va_ti F.1 F.2.1 (F.2.2.2.2.2.2.2.2.1.1 j hj) hS hx rfl hd (h l ρ cA D p e R s m args below meth c cells slots Qw F H locs ls hP hS hl hk)
theorem q_rlen {j : Nat} {v : Int32} (hd : decode (q_mB i) pc = .ok (.arraylength, 1)) (hj : j < 4) (hv : Int32.ofNat (q_rc X j).1 = v) (h : q_Ex X d i (pc + 1) als (.int v :: st) M Q) : q_Ex X d i pc als (.ref (1000 + j) :: st) M Q := by
  intro l ρ cA D p e R s m args below meth c cells slots Qw F H locs ls hP hS hl hk
  exact va_tlen F.1 F.2.1 (F.2.2.2.2.2.2.2.2.1.1 j hj) hS hv hd (h l ρ cA D p e R s m args below meth c cells slots Qw F H locs ls hP hS hl hk)
theorem q_copy {idx r t n0 n1 : Nat} {sp dp n : Int32} (hd : decode (q_mB i) pc = .ok (.invokestatic idx, 3)) (hw : Cond.methodLink (q_mY i).cls idx arraycopyName ∈ goodTbl) (hw2 : Cond.native arraycopyName ∈ goodTbl ∧ Cond.static arraycopyName ∈ goodTbl ∧ Cond.initialized "java/lang/System" ∈ goodTbl) (hr : q_lay[r]? = some (.inr (.inl n0))) (ht : q_lay[t]? = some (.inr (.inl n1))) (hsp : sp = 0) (hdp : dp = 0) (h3 : ¬ n < 0) (h4 : n.toNatClampNeg ≤ n0) (h5 : n.toNatClampNeg ≤ n1) (hst : (st.map fun v => v.category).sum ≤ 8) (h : q_Ex X d i (pc + 3) als st (q_row M t (va_cpy (M r) (M t) 0 0 n.toNatClampNeg)) Q) : q_Ex X d i pc als (.int n :: .int dp :: .ref t :: .int sp :: .ref r :: st) M Q := by
  intro l ρ cA D p e R s m args below meth c cells slots Qw F H locs ls hP hS hl hk
  have h := h l ρ cA D p e R s m args below meth c cells slots Qw F
  subst hsp
  subst hdp
  have hK2 : va_K D q_cl [(cA r, .int), (cA t, .int)] s := va_K.app (F.2.2.2.2.2.2.1.2 r .int (q_aty_i hr)) (F.2.2.2.2.2.2.1.2 t .int (q_aty_i ht))
  have hz : (0 : Int32).toNatClampNeg = 0 := rfl
  refine va_copyi F.1 F.2.1 (by rw [F.2.2.1, hl.1]) F.2.2.2.1 (F.2.2.2.2.1 _ hw) (F.2.2.2.2.1 _ hw2.1) (F.2.2.2.2.1 _ hw2.2.1) (F.2.2.2.2.1 _ hw2.2.2) hK2 hP (q_D F.2.2.2.2.2.2.2.2.2 cA M) hS r t 0 1 (q_wld_at hr) (q_wld_at ht) rfl rfl rfl (by decide) (by decide) h3 (by rw [hz]; omega) (by rw [hz]; omega) (fun _ _ => rfl) (by have := F.2.2.2.2.2.1.1; omega) (by
    rw [q_rv_sum]
    have h1 := F.2.2.2.2.2.1.2.1
    have h2 : nativeFrameWords "java/lang/System" "arraycopy" 5 ≤ 40 := by decide +kernel
    omega) hd (fun H1 locs1 hP1 _ hS1 => ?_)
  rw [hz, q_wld_row (f := va_cpy (M r) (M t) 0 0 n.toNatClampNeg) ht (by
    show _ = Sum.inl (cA t, n1, Sum.inl (q_row M t (va_cpy (M r) (M t) 0 0 n.toNatClampNeg) t))
    rw [q_row_s])] at hP1
  exact h H1 locs1 ls hP1 hS1 hl hk
end Rules
