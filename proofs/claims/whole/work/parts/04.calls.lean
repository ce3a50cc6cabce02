
/-! calls -/
theorem q_good {w : Cond} (h : w ∈ goodTbl) : (w.onTables && w.keeps) = true ∨ ∃ ty, w = .arrayClass ty := good_of_word (List.mem_filter.mp h).2
theorem q_goodIn {ws : List Cond} (h : ∀ w ∈ ws, w ∈ goodTbl) : GoodIn goodTbl ws := fun w hw => ⟨h w hw, q_good (h w hw)⟩
def q_ent (n : Nat) (As : List Value) : List (Option Value) := As.map some ++ List.replicate (n - As.length) none
theorem q_toL_none (ρ : Nat → Nat) (n : Nat) : ∀ i, q_toL ρ i (List.replicate n none) = [] := by
  induction n with
  | zero => intro i; rfl
  | succ n ih => intro i; rw [List.replicate_succ]; exact ih (i + 1)
theorem q_toL_ent (ρ : Nat → Nat) (n : Nat) (As : List Value) (hc : ∀ v ∈ As, v.category = 1) : ∀ i, q_toL ρ i (As.map some ++ List.replicate n none) = lv_args i (As.map (q_rv ρ)) := by
  induction As with
  | nil => intro i; simpa [lv_args] using q_toL_none ρ n i
  | cons a r ih =>
    intro i
    have h1 : ¬ (q_rv ρ a).category = 2 := by rw [q_rv_cat, hc a List.mem_cons_self]; decide
    simp only [List.map_cons, List.cons_append, q_toL, lv_args, if_neg h1]
    rw [ih (fun v hv => hc v (List.mem_cons_of_mem _ hv))]
theorem q_sl_len (ρ : Nat → Nat) (As : List Value) (hc : ∀ v ∈ As, v.category = 1) : (lg_sl (As.map (q_rv ρ))).length = As.length := by
  induction As with
  | nil => rfl
  | cons a r ih =>
    have h1 : ¬ (q_rv ρ a).category = 2 := by rw [q_rv_cat, hc a List.mem_cons_self]; decide
    have h2 := ih (fun v hv => hc v (List.mem_cons_of_mem _ hv))
    unfold lg_sl at h2 ⊢
    simp only [List.map_cons, List.flatMap_cons, if_neg h1, List.length_append, h2, List.length_cons, List.length_nil]
    omega
theorem q_ent_lv (ρ : Nat → Nat) (n : Nat) (As : List Value) (hc : ∀ v ∈ As, v.category = 1) (hn : As.length ≤ n) : lv_has ((lg_sl (As.map (q_rv ρ)) ++ List.replicate (n - (lg_sl (As.map (q_rv ρ))).length) Slot.unset).toArray) n (q_toL ρ 0 (q_ent n As)) := by
  unfold q_ent
  rw [q_toL_ent ρ _ As hc]
  exact lv_entry (As.map (q_rv ρ)) (by rw [q_sl_len ρ As hc]; exact hn)
def q_Pc (X : Nat × (Nat → Int32)) (ρ : Nat → Nat) (cA : Nat → ClassId) (D : va_G) (As : List Value) (M : q_M) : Array Value → State → Prop := va_Pc (As.map (q_rv ρ)) (fun U => va_P D q_cl (q_wld ρ cA M) U.heap ∧ q_K cA D U ∧ q_Nw U ∧ q_Ro ρ X U U.heap)
def q_Qc (ρ : Nat → Nat) (cA : Nat → ClassId) (D : va_G) (Q : Option Value → q_M → Prop) : Array Value → State → Outcome → State → Prop := fun _ st oc t => (∃ v M', oc = .returned (v.map (q_rv ρ)) ∧ Q v M' ∧ va_P D q_cl (q_wld ρ cA M') t.heap) ∧ va_F (q_A ρ) st t
abbrev q_rm (d : Nat) : Room := { frames := d + 2, cells := 0, slots := 0, locals := 40 * (d + 2) }
abbrev q_ws (j : Nat) : List Cond := Cond.code (q_mY j) (q_mB j) (q_mL j) (q_mR j) :: goodTbl
theorem q_blind {X : Nat × (Nat → Int32)} {ρ : Nat → Nat} {cA : Nat → ClassId} {D : va_G} {As : List Value} {M : q_M} : FrameBlind (q_Pc X ρ cA D As M) := by
  intro a U g mk q
  obtain ⟨h1, h2, h3, h4, h5⟩ := q
  exact ⟨h1, h2, q_K.moved (u := U) (U := U.calling g mk a) (Vm.Alike.refl U.vm) h3, q_Nw.same (u := U) (U := U.calling g mk a) rfl h4, q_Ro.moved (u := U) (U := U.calling g mk a) (Vm.Alike.refl U.vm) h5⟩
theorem q_met {X : Nat × (Nat → Int32)} {d j : Nat} {As : List Value} {M : q_M} {Q : Option Value → q_M → Prop} (h : q_Ex X d j 0 (q_ent (q_mL j) As) [] M Q) (hcat : ∀ v ∈ As, v.category = 1) (hlen : As.length ≤ q_mL j) (hpn : plainName (q_mY j).cls = true) (l : Launch) (ρ : Nat → Nat) (cA : Nat → ClassId) (D : va_G) (hinj : q_inj ρ) :
    Met l (q_mY j) (q_ws j) (q_rm d) (q_Pc X ρ cA D As M) (q_Qc ρ cA D Q) 0 0 (q_A ρ) := by
  refine Met.ofW (cc := q_mB j) (maxL := q_mL j) (ret := q_mR j) hpn rfl ?_
  intro p e s m args below meth c s₁ B hml hv
  obtain ⟨rfl, hP, hK, hN, hRo⟩ := hv
  have hx := B.exec
  have hb := B.bytes
  have hr := B.returns
  have hts := atoms_spec (ws := q_ws j) B.pre
  have hown : s.vm.findClass (q_mY j).cls = some m.cls := findClass_of_methodNamed B.named
  have hlocks := B.notSynchronized
  rw [lg_entry_eq]
  refine h l ρ cA D p e _ s m _ below meth c 0 0 _ ⟨hx, hb, hml, hown, fun w hw => hts w (List.mem_cons_of_mem _ hw), ⟨Nat.le_refl _, Nat.le_refl _, Nat.le_refl _, Nat.le_refl _⟩, hK, hN, hRo, hinj⟩ s.heap [] _ hP va_S.rf (q_ent_lv ρ (q_mL j) As hcat hlen) ?_
  intro v M' H' locs' pc' ls' hQ hP' hS' hrt
  rcases hrt with ⟨x, rfl, hd, hr'⟩ | ⟨rfl, hd, hr'⟩ | ⟨k, C, rfl, hd, hr'⟩
  · rcases hr' with hr' | ⟨hr', h01⟩
    · exact W.iret hx hb (hr.trans hr') (fun t ht _ => ⟨⟨_, M', rfl, hQ, by rw [ht]; exact hP'⟩, hS'.F ht⟩) hS'.2.2 hd hlocks
    · exact W.zret hx hb (hr.trans hr') (by rcases h01 with rfl | rfl <;> decide) (fun t ht _ => ⟨⟨_, M', rfl, hQ, by rw [ht]; exact hP'⟩, hS'.F ht⟩) hS'.2.2 hd hlocks
  · exact W.vret hx hb (hr.trans hr') (fun t ht _ => ⟨⟨_, M', rfl, hQ, by rw [ht]; exact hP'⟩, hS'.F ht⟩) hS'.2.2 hd hlocks
  · exact W.aret hx hb (hr.trans hr') (Or.inl ⟨C, rfl⟩) (Or.inr ⟨ρ k, rfl⟩) (fun t ht _ => ⟨⟨_, M', rfl, hQ, by rw [ht]; exact hP'⟩, hS'.F ht⟩) hS'.2.2 hd hlocks
theorem q_fin {p : Program} {l : Launch} {e : Env} {R : Room} {s : State} {m : MethodId} {args : Array Value} {below : List Frame} {meth : Method} {c : Code} {H : Heap} {locs : List Loc} {cells slots : Nat} {Qw : State → Prop} {pc : Nat} {ls : Array Slot} {st0 rest : List Value} {a : Array Value} {ρ : Nat → Nat} {cA : Nat → ClassId} {D : va_G} {Q : Option Value → q_M → Prop}
    (hr : va_Run p l e R s m args below meth c H locs cells slots 0 0 (F0 m pc ls st0) rest (q_Qc ρ cA D Q a) (q_A ρ)) (hS : va_S (q_A ρ) s.heap H locs)
    (kk : ∀ (v : Option Value) (M' : q_M) (H1 : Heap) (locs1 : List Loc), Q v M' → va_P D q_cl (q_wld ρ cA M') H1 → va_S (q_A ρ) s.heap H1 locs1 → W p l e R s m args below meth c H1 locs1 cells slots Qw (F0 m (pc + 3) ls ((v.map (q_rv ρ)).toList ++ rest))) :
    W p l e R s m args below meth c H locs cells slots Qw (F0 m pc ls st0) := by
  intro T hT X
  obtain ⟨v, st₀, t, T', L, h0, X', hL, e1, e2, ⟨⟨w, M', hv, hq, hp⟩, hz, hk⟩, st⟩ := hr T hT X
  have hv' : v = w.map (q_rv ρ) := Outcome.returned.inj hv
  subst hv'
  rw [h0] at hz hk
  obtain ⟨t2, a1, b1⟩ := kk w M' T'.heap (locs ++ L) hq (by rw [e1]; exact hp)
    ⟨Nat.le_trans hS.1 (by rw [e1]; exact hz), fun q h1 h2 => by rw [e1, hk q (Nat.lt_of_lt_of_le h1 hS.1) h2]; exact hS.2.1 q h1 h2, fun q hq => by
      rcases List.mem_append.mp hq with h | h
      · exact hS.2.2 q h
      · exact hL q h⟩ T' rfl X'
  exact ⟨t2, st t2 a1, b1⟩
/-- what is known of a method as a callee -/
def q_okM (j np : Nat) : Prop := plainName (q_mY j).cls = true ∧ Cond.code (q_mY j) (q_mB j) (q_mL j) (q_mR j) ∈ goodTbl ∧ Cond.initialized (q_mY j).cls ∈ goodTbl ∧ ((q_mY j).cls ≠ "java/lang/invoke/MethodHandle" ∧ (q_mY j).cls ≠ "java/lang/invoke/VarHandle" ∧ (parseMethodDescriptor (q_mY j).desc).map (fun d => d.parameters.length) = some np) ∧ q_mL j ≤ 21
def q_okV (j np ci : Nat) : Prop := (∃ (T : u_T) (N : Nat), q_cl[ci]? = some ((q_mY j).cls, T, N)) ∧ q_okM j np ∧ Cond.instanceMethod (q_mY j) ∈ goodTbl ∧ Cond.selects (q_mY j).cls (q_mY j) (q_mY j) ∈ goodTbl ∧ np + 1 ≤ q_mL j
def q_okS (j np : Nat) : Prop := q_okM j np ∧ Cond.static (q_mY j) ∈ goodTbl ∧ np ≤ q_mL j
theorem q_wsIn {j np : Nat} (h : q_okM j np) : ∀ w ∈ q_ws j, w ∈ goodTbl := fun w hw => (List.mem_cons.mp hw).elim (fun e => by rw [e]; exact h.2.1) id
section Calls
variable {X : Nat × (Nat → Int32)} {d i pc : Nat} {als : List (Option Value)} {st : List Value} {M : q_M} {Q Q2 : Option Value → q_M → Prop}
theorem q_rvApp (ρ : Nat → Nat) (v : Option Value) (st : List Value) : (v.map (q_rv ρ)).toList ++ st.map (q_rv ρ) = (v.toList ++ st).map (q_rv ρ) := by cases v <;> simp
theorem q_invV {idx np j ci r : Nat} {As st0 : List Value} {fs : List (Option Nat)} (hd : decode (q_mB i) pc = .ok (.invokevirtual idx, 3)) (hlk : Cond.methodLink (q_mY i).cls idx (q_mY j) ∈ goodTbl) (hj : q_okV j np ci) (hr : q_lay[r]? = some (.inl (ci, fs))) (hn : As.length = np) (hst : st0 = As.reverse ++ .ref r :: st) (hcat : ∀ v ∈ As, v.category = 1) (hsum : (st.map fun v => v.category).sum ≤ 8) (hd0 : 0 < d)
    (h : q_Ex X (d - 1) j 0 (q_ent (q_mL j) (.ref r :: As)) [] M Q2) (kk : ∀ v M', Q2 v M' → q_Ex X d i (pc + 3) als (v.toList ++ st) M' Q) : q_Ex X d i pc als st0 M Q := by
  intro l ρ cA D p e R s m args below meth c cells slots Qw F H locs ls hP hS hl hk
  obtain ⟨hx, hb, hml, hown, hts, ⟨f1, f2, f3, f4⟩, hK, hN, hRo, hinj⟩ := id F
  obtain ⟨⟨T, N, hcl⟩, hjm, hin, hsel, hnL⟩ := hj
  subst hst
  have hcat' : ∀ v ∈ (Value.ref r :: As), v.category = 1 := fun v hv => (List.mem_cons.mp hv).elim (fun e => by rw [e]; rfl) (hcat v)
  have hM := q_met h hcat' (by simp [hn]; exact hnL) hjm.1 l ρ cA D hinj
  have hG : GoodIn goodTbl (wsV (q_mY i).cls idx (q_mY j).cls (q_mY j) (q_ws j)) := q_goodIn (fun w hw => by
    unfold wsV at hw
    rcases List.mem_append.mp hw with h1 | h1
    · simp only [List.mem_cons, List.not_mem_nil, or_false] at h1
      rcases h1 with rfl | rfl | rfl | rfl
      · exact hlk
      · exact hin
      · exact hsel
      · exact hjm.2.2.1
    · exact q_wsIn hjm w h1)
  have hL := hjm.2.2.2.2
  refine q_fin (va_runV (As := As.map (q_rv ρ)) (rest := st.map (q_rv ρ)) (b := ρ r) ⟨hx, hb, hml, hown, hts⟩ hM (cwV np hts hG rfl rfl rfl ⟨rfl, hjm.2.2.2.1⟩ ⟨by show d - 1 + 2 + 1 ≤ R.frames; omega, by show 8 + (q_mL j + 11) + 40 * (d - 1 + 2) ≤ R.locals; omega⟩) ⟨q_blind, va_recv hK.1 hP hcl (q_wld_at hr), fun U hU hW => ⟨rfl, by rw [hU]; exact hP, q_K.moved hW.alike hK, q_Nw.warm hW hN, by rw [hU]; exact q_Ro.moved hW.alike (q_Ro.kept hRo hS.2.1)⟩⟩ rfl (by rw [List.length_map]; exact hn) hl.1 (by simp [q_rv]) (lv_room (by rw [q_rv_sum]; exact hsum)) hd ⟨f3, f4⟩) hS (fun v M' H1 locs1 hQ hP1 hS1 => ?_)
  rw [q_rvApp]
  exact kk v M' hQ l ρ cA D p e R s m args below meth c cells slots Qw F H1 locs1 ls hP1 hS1 hl hk
theorem q_invS {idx np j : Nat} {As st0 : List Value} (hd : decode (q_mB i) pc = .ok (.invokestatic idx, 3)) (hlk : Cond.methodLink (q_mY i).cls idx (q_mY j) ∈ goodTbl) (hj : q_okS j np) (hn : As.length = np) (hst : st0 = As.reverse ++ st) (hcat : ∀ v ∈ As, v.category = 1) (hsum : (st.map fun v => v.category).sum ≤ 8) (hd0 : 0 < d)
    (h : q_Ex X (d - 1) j 0 (q_ent (q_mL j) As) [] M Q2) (kk : ∀ v M', Q2 v M' → q_Ex X d i (pc + 3) als (v.toList ++ st) M' Q) : q_Ex X d i pc als st0 M Q := by
  intro l ρ cA D p e R s m args below meth c cells slots Qw F H locs ls hP hS hl hk
  obtain ⟨hx, hb, hml, hown, hts, ⟨f1, f2, f3, f4⟩, hK, hN, hRo, hinj⟩ := id F
  obtain ⟨hjm, hstt, hnL⟩ := hj
  subst hst
  have hM := q_met h hcat (by rw [hn]; exact hnL) hjm.1 l ρ cA D hinj
  have hG : GoodIn goodTbl (va_wsS (q_mY i).cls idx (q_mY j) (q_ws j)) := q_goodIn (fun w hw => by
    unfold va_wsS at hw
    rcases List.mem_append.mp hw with h1 | h1
    · simp only [List.mem_cons, List.not_mem_nil, or_false] at h1
      rcases h1 with rfl | rfl | rfl
      · exact hlk
      · exact hstt
      · exact hjm.2.2.1
    · exact q_wsIn hjm w h1)
  have hL := hjm.2.2.2.2
  refine q_fin (va_runS (As := As.map (q_rv ρ)) (rest := st.map (q_rv ρ)) ⟨hx, hb, hml, hown, hts⟩ hM (va_cwS np hts hG rfl rfl rfl hjm.2.2.2.1 ⟨by show d - 1 + 2 + 1 ≤ R.frames; omega, by show 8 + (q_mL j + 11) + 40 * (d - 1 + 2) ≤ R.locals; omega⟩) ⟨q_blind, fun U hU hW => ⟨rfl, by rw [hU]; exact hP, q_K.moved hW.alike hK, q_Nw.warm hW hN, by rw [hU]; exact q_Ro.moved hW.alike (q_Ro.kept hRo hS.2.1)⟩⟩ rfl (by rw [List.length_map]; exact hn) hl.1 (by simp) (lv_room (by rw [q_rv_sum]; exact hsum)) hd ⟨f3, f4⟩) hS (fun v M' H1 locs1 hQ hP1 hS1 => ?_)
  rw [q_rvApp]
  exact kk v M' hQ l ρ cA D p e R s m args below meth c cells slots Qw F H1 locs1 ls hP1 hS1 hl hk
theorem q_invSN {idx np j : Nat} {As st0 : List Value} (hd : decode (q_mB i) pc = .ok (.invokestatic idx, 3)) (hlk : ∀ U, q_Nw U → va_Nw (.methodLinkNest (q_mY i).cls idx (q_mY j) "NeverCross") U) (hj : q_okS j np) (hn : As.length = np) (hst : st0 = As.reverse ++ st) (hcat : ∀ v ∈ As, v.category = 1) (hsum : (st.map fun v => v.category).sum ≤ 8) (hd0 : 0 < d)
    (h : q_Ex X (d - 1) j 0 (q_ent (q_mL j) As) [] M Q2) (kk : ∀ v M', Q2 v M' → q_Ex X d i (pc + 3) als (v.toList ++ st) M' Q) : q_Ex X d i pc als st0 M Q := by
  intro l ρ cA D p e R s m args below meth c cells slots Qw F H locs ls hP hS hl hk
  obtain ⟨hx, hb, hml, hown, hts, ⟨f1, f2, f3, f4⟩, hK, hN, hRo, hinj⟩ := id F
  obtain ⟨hjm, hstt, hnL⟩ := hj
  subst hst
  have hM := q_met h hcat (by rw [hn]; exact hnL) hjm.1 l ρ cA D hinj
  have hL := hjm.2.2.2.2
  refine q_fin (va_runSN (As := As.map (q_rv ρ)) (rest := st.map (q_rv ρ)) ⟨hx, hb, hml, hown, hts⟩ hM ⟨va_cnB np hts (q_goodIn (q_wsIn hjm)) rfl rfl rfl (hlk s hN) (hts _ hjm.2.2.1) hjm.2.2.2.1 ⟨by show d - 1 + 2 + 1 ≤ R.frames; omega, by show 8 + (q_mL j + 11) + 40 * (d - 1 + 2) ≤ R.locals; omega⟩, hts _ hstt, trivial⟩ ⟨q_blind, fun U hU hW => ⟨rfl, by rw [hU]; exact hP, q_K.moved hW.alike hK, q_Nw.warm hW hN, by rw [hU]; exact q_Ro.moved hW.alike (q_Ro.kept hRo hS.2.1)⟩⟩ rfl (by rw [List.length_map]; exact hn) hl.1 (by simp) (lv_room (by rw [q_rv_sum]; exact hsum)) hd ⟨f3, f4⟩) hS (fun v M' H1 locs1 hQ hP1 hS1 => ?_)
  rw [q_rvApp]
  exact kk v M' hQ l ρ cA D p e R s m args below meth c cells slots Qw F H1 locs1 ls hP1 hS1 hl hk
/-- a call by a name that another class's method answers -/
def q_okU (i idx j np ci : Nat) : Prop := ∃ (C owner : String) (T : u_T) (N : Nat) (x : MethodName), q_cl[ci]? = some (C, T, N) ∧ q_okM j np ∧ np + 1 ≤ q_mL j ∧ (owner ≠ "java/lang/invoke/MethodHandle" ∧ owner ≠ "java/lang/invoke/VarHandle" ∧ (parseMethodDescriptor x.desc).map (fun d => d.parameters.length) = some np) ∧ (∀ w ∈ ([.methodLink (q_mY i).cls idx x, .sameMethod x.cls owner x.name x.desc, .selects C x (q_mY j), .instanceMethod (q_mY j), .initialized (q_mY j).cls] : List Cond), w ∈ goodTbl) ∧
  ∀ s : State, ∀ args : Array Value, (∀ w ∈ goodTbl, w.before args s = true) → q_Nw s → va_Decl s ⟨owner, x.name, x.desc⟩
theorem q_invU {idx np j ci r : Nat} {As st0 : List Value} {fs : List (Option Nat)} (hd : decode (q_mB i) pc = .ok (.invokevirtual idx, 3)) (hj : q_okU i idx j np ci) (hr : q_lay[r]? = some (.inl (ci, fs))) (hn : As.length = np) (hst : st0 = As.reverse ++ .ref r :: st) (hcat : ∀ v ∈ As, v.category = 1) (hsum : (st.map fun v => v.category).sum ≤ 8) (hd0 : 0 < d)
    (h : q_Ex X (d - 1) j 0 (q_ent (q_mL j) (.ref r :: As)) [] M Q2) (kk : ∀ v M', Q2 v M' → q_Ex X d i (pc + 3) als (v.toList ++ st) M' Q) : q_Ex X d i pc als st0 M Q := by
  intro l ρ cA D p e R s m args below meth c cells slots Qw F H locs ls hP hS hl hk
  obtain ⟨hx, hb, hml, hown, hts, ⟨f1, f2, f3, f4⟩, hK, hN, hRo, hinj⟩ := id F
  obtain ⟨C, owner, T, N, x, hcl, hjm, hnL, hde, hw, hdecl⟩ := hj
  subst hst
  have hcat' : ∀ v ∈ (Value.ref r :: As), v.category = 1 := fun v hv => (List.mem_cons.mp hv).elim (fun e => by rw [e]; rfl) (hcat v)
  have hM := q_met h hcat' (by simp [hn]; exact hnL) hjm.1 l ρ cA D hinj
  have hL := hjm.2.2.2.2
  have ok : ∀ w ∈ ([.methodLink (q_mY i).cls idx x, .sameMethod x.cls owner x.name x.desc, .selects C x (q_mY j), .instanceMethod (q_mY j), .initialized (q_mY j).cls] : List Cond), w.before args s = true := fun w h => hts w (hw w h)
  have hcu : va_CU R s args (q_mY i).cls C owner idx x (q_mY j) (q_mB j) (q_mL j) (q_mR j) (q_ws j) (q_rm (d - 1)) 0 0 np := by
    refine ⟨⟨rfl, rfl, by show d - 1 + 2 + 1 ≤ R.frames; omega, by show 8 + (q_mL j + 11) + 40 * (d - 1 + 2) ≤ R.locals; omega, pay_in hts (q_goodIn (q_wsIn hjm)), List.mem_cons_self⟩, hts _ hjm.2.1, hts _ hjm.2.2.1, ⟨hde.1, hde.2.1⟩, fun sig h => ?_, ok _ (by simp), ok _ (by simp), hdecl s args hts hN, ok _ (by simp), ok _ (by simp)⟩
    have h2 := hde.2.2
    rw [h] at h2
    exact (Option.some.inj h2).symm
  refine q_fin (va_runU (As := As.map (q_rv ρ)) (rest := st.map (q_rv ρ)) (b := ρ r) ⟨hx, hb, hml, hown, hts⟩ hM hcu ⟨q_blind, va_recv hK.1 hP hcl (q_wld_at hr), fun U hU hW => ⟨rfl, by rw [hU]; exact hP, q_K.moved hW.alike hK, q_Nw.warm hW hN, by rw [hU]; exact q_Ro.moved hW.alike (q_Ro.kept hRo hS.2.1)⟩⟩ rfl (by rw [List.length_map]; exact hn) hl.1 (by simp [q_rv]) (lv_room (by rw [q_rv_sum]; exact hsum)) hd ⟨f3, f4⟩) hS (fun v M' H1 locs1 hQ hP1 hS1 => ?_)
  rw [q_rvApp]
  exact kk v M' hQ l ρ cA D p e R s m args below meth c cells slots Qw F H1 locs1 ls hP1 hS1 hl hk
theorem q_mmax {idx : Nat} {x y : Int32} (hd : decode (q_mB i) pc = .ok (.invokestatic idx, 3)) (hw : Cond.methodLink (q_mY i).cls idx Lib.Math.max.name ∈ goodTbl) (hw2 : Cond.static Lib.Math.max.name ∈ goodTbl ∧ Cond.initialized "java/lang/Math" ∈ goodTbl ∧ Cond.code Lib.Math.max.name Lib.Math.max.code 2 (some .int) ∈ goodTbl) (hsum : (st.map fun v => v.category).sum ≤ 8) (h : q_Ex X d i (pc + 3) als (.int (if x < y then y else x) :: st) M Q) : q_Ex X d i pc als (.int y :: .int x :: st) M Q := by
  intro l ρ cA D p e R s m args below meth c cells slots Qw F H locs ls hP hS hl hk
  obtain ⟨hx, hb, hml, hown, hts, ⟨f1, f2, f3, f4⟩, hK, hN, hRo, hinj⟩ := id F
  exact va_mmax hx hb (by rw [hml, hl.1]) hown (hts _ hw) (hts _ hw2.1) (hts _ hw2.2.1) (hts _ hw2.2.2) (by omega) (by rw [q_rv_sum]; omega) f3 f4 hd (h l ρ cA D p e R s m args below meth c cells slots Qw F H locs ls hP hS hl hk)
theorem q_mmin {idx : Nat} {x y : Int32} (hd : decode (q_mB i) pc = .ok (.invokestatic idx, 3)) (hw : Cond.methodLink (q_mY i).cls idx Lib.Math.min.name ∈ goodTbl) (hw2 : Cond.static Lib.Math.min.name ∈ goodTbl ∧ Cond.initialized "java/lang/Math" ∈ goodTbl ∧ Cond.code Lib.Math.min.name Lib.Math.min.code 2 (some .int) ∈ goodTbl) (hsum : (st.map fun v => v.category).sum ≤ 8) (h : q_Ex X d i (pc + 3) als (.int (if y < x then y else x) :: st) M Q) : q_Ex X d i pc als (.int y :: .int x :: st) M Q := by
  intro l ρ cA D p e R s m args below meth c cells slots Qw F H locs ls hP hS hl hk
  obtain ⟨hx, hb, hml, hown, hts, ⟨f1, f2, f3, f4⟩, hK, hN, hRo, hinj⟩ := id F
  exact va_mmin hx hb (by rw [hml, hl.1]) hown (hts _ hw) (hts _ hw2.1) (hts _ hw2.2.1) (hts _ hw2.2.2) (by omega) (by rw [q_rv_sum]; omega) f3 f4 hd (h l ρ cA D p e R s m args below meth c cells slots Qw F H locs ls hP hS hl hk)
end Calls
/-! judgements by the kind of answer -/
def q_ri (K : Int32 → q_M → Prop) : Option Value → q_M → Prop := fun v M => ∃ r, v = some (.int r) ∧ K r M
def q_rn (K : q_M → Prop) : Option Value → q_M → Prop := fun v M => v = none ∧ K M
def q_rr (K : Nat → q_M → Prop) : Option Value → q_M → Prop := fun v M => ∃ r, v = some (.ref r) ∧ K r M
def q_Ci (X : Nat × (Nat → Int32)) (d j : Nat) (As : List Value) (M : q_M) (K : Int32 → q_M → Prop) : Prop := q_Ex X d j 0 (q_ent (q_mL j) As) [] M (q_ri K)
def q_Cv (X : Nat × (Nat → Int32)) (d j : Nat) (As : List Value) (M : q_M) (K : q_M → Prop) : Prop := q_Ex X d j 0 (q_ent (q_mL j) As) [] M (q_rn K)
def q_Cr (X : Nat × (Nat → Int32)) (d j : Nat) (As : List Value) (M : q_M) (K : Nat → q_M → Prop) : Prop := q_Ex X d j 0 (q_ent (q_mL j) As) [] M (q_rr K)
theorem q_Ci.mono {X : Nat × (Nat → Int32)} {d j : Nat} {As : List Value} {M : q_M} {K K2 : Int32 → q_M → Prop} (h : q_Ci X d j As M K) (hk : ∀ r M, K r M → K2 r M) : q_Ci X d j As M K2 := q_mono h (fun _ _ ⟨r, e, h⟩ => ⟨r, e, hk _ _ h⟩)
theorem q_Cv.mono {X : Nat × (Nat → Int32)} {d j : Nat} {As : List Value} {M : q_M} {K K2 : q_M → Prop} (h : q_Cv X d j As M K) (hk : ∀ M, K M → K2 M) : q_Cv X d j As M K2 := q_mono h (fun _ _ ⟨e, h⟩ => ⟨e, hk _ h⟩)
theorem q_Cr.mono {X : Nat × (Nat → Int32)} {d j : Nat} {As : List Value} {M : q_M} {K K2 : Nat → q_M → Prop} (h : q_Cr X d j As M K) (hk : ∀ r M, K r M → K2 r M) : q_Cr X d j As M K2 := q_mono h (fun _ _ ⟨r, e, h⟩ => ⟨r, e, hk _ _ h⟩)
