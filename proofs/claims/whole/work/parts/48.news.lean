/-! constructors: a list of cells in front, any other cells behind; one set of addresses, all that are new -/
abbrev n_A (S0 : Nat) : Nat → Prop := fun q => S0 ≤ q
abbrev n_ty (cI cII cL : ClassId) : List (ClassId × FieldType) := [(cI, .int), (cII, .array .int), (cL, .object "NeverCross$Law")]
def n_ord : Nat → Value := fun j => .int (([0, 10, 1, 210, 120, 201, 21, 102, 12] : List Int32).getD j 0)
abbrev n_ar (cI : ClassId) (n : Nat) : va_E := .inl (cI, n, .inl (fun _ => 0))
abbrev n_aq (c : ClassId) (n : Nat) (f : Nat → Nat) : va_E := .inl (c, n, .inr (.inr (.inr (.inr (fun j => some (f j))))))
def n_init (C : String) : MethodName := ⟨C, "<init>", "()V"⟩
/-- the words that hold over a nest, and over arrays of references -/
def n_ml : List (String × Nat × String) := [("NeverCross", 18, "NeverCross$Slope"), ("NeverCross", 25, "NeverCross$Held"), ("NeverCross$Held", 11, "NeverCross$Slope"), ("NeverCross", 37, "NeverCross$Own"), ("NeverCross$Own", 1, "NeverCross$Law"), ("NeverCross", 40, "NeverCross$Turned"), ("NeverCross$Turned", 1, "NeverCross$Own"), ("NeverCross", 43, "NeverCross$Next"), ("NeverCross$Next", 1, "NeverCross$Own"), ("NeverCross", 46, "NeverCross$Any"), ("NeverCross$Any", 1, "NeverCross$Law"), ("NeverCross", 49, "NeverCross$Told"), ("NeverCross$Told", 1, "NeverCross$Own")]
def n_ca : List String := ["NeverCross$Own", "NeverCross$Turned", "NeverCross$Next", "NeverCross$Any", "NeverCross$Told"]
def n_AOA (U : State) : Prop := ∀ A : Array Value, (Cond.arrayOver (.array .int)).before A U = true
theorem n_AOA.same {s U : State} (hv : s.vm = U.vm) (h : n_AOA s) : n_AOA U := fun A => by
  have h1 := h A
  unfold Cond.before Cond.holds at h1 ⊢
  simp only [Cond.value] at h1 ⊢
  rw [← hv]
  exact h1
theorem n_AOA.warm {s U : State} (hW : s.WarmedH U.vm) (h : n_AOA s) : n_AOA U := n_AOA.same (s := s.setVm U.vm) rfl (fun A => by rw [Cond.arrayOver_setVmC hW.alike]; exact h A)
def n_Wd (U : State) : Prop := (∀ q ∈ n_ml, va_Nw (.methodLinkNest q.1 q.2.1 (n_init q.2.2) "NeverCross") U) ∧ (∀ C ∈ n_ca, va_Nw (.castable C "NeverCross$Law") U) ∧ va_Nw (.fieldLinkNest "NeverCross$Study" 15 "NeverCross" "ORDERS" "[I" "NeverCross") U ∧ va_AO "NeverCross$Law" U ∧ n_AOA U
theorem n_Wd.warm {s U : State} (hW : s.WarmedH U.vm) (h : n_Wd s) : n_Wd U := ⟨fun q hq => va_Nw.warmM hW (h.1 q hq), fun C hC => va_Nw.warmC hW (h.2.1 C hC), va_Nw.warmF hW h.2.2.1, va_AO.moved hW.alike h.2.2.2.1, n_AOA.warm hW h.2.2.2.2⟩
theorem n_Wd.same {s U : State} (hv : s.vm = U.vm) (h : n_Wd s) : n_Wd U := ⟨fun q hq => va_Nw.same rfl hv (h.1 q hq), fun C hC => va_Nw.same rfl hv (h.2.1 C hC), va_Nw.same rfl hv h.2.2.1, va_AO.moved (by rw [hv]; exact Vm.Alike.refl _) h.2.2.2.1, n_AOA.same hv h.2.2.2.2⟩
abbrev n_Cx : Type := va_G × ClassId × ClassId × ClassId × Nat × Nat
abbrev n_Cx.D (x : n_Cx) : va_G := Prod.fst x
abbrev n_Cx.cI (x : n_Cx) : ClassId := Prod.fst (Prod.snd x)
abbrev n_Cx.cII (x : n_Cx) : ClassId := Prod.fst (Prod.snd (Prod.snd x))
abbrev n_Cx.cL (x : n_Cx) : ClassId := Prod.fst (Prod.snd (Prod.snd (Prod.snd x)))
abbrev n_Cx.S0 (x : n_Cx) : Nat := Prod.fst (Prod.snd (Prod.snd (Prod.snd (Prod.snd x))))
abbrev n_Cx.t0 (x : n_Cx) : Nat := Prod.snd (Prod.snd (Prod.snd (Prod.snd (Prod.snd x))))
def n_C (x : n_Cx) (U : State) : Prop := va_K x.D q_cl (n_ty x.cI x.cII x.cL) U ∧ n_Wd U ∧ va_Z "NeverCross" "ORDERS" "[I" (.ref x.t0) (n_A x.S0) U U.heap ∧ va_T .int x.t0 9 n_ord (n_A x.S0) U U.heap ∧ x.S0 ≤ U.heap.size
/-- the cells: in front and behind -/
def n_H (x : n_Cx) (X Y : va_W) (H : Heap) : Prop := va_P x.D q_cl (X ++ Y) H ∧ va_D (n_A x.S0) (X ++ Y)
theorem n_H.perm {x : n_Cx} {X Y X' Y' : va_W} {H : Heap} (h : n_H x X Y H) (hp : List.Perm (X ++ Y) (X' ++ Y')) : n_H x X' Y' H := by
  obtain ⟨h1, h2, h3⟩ := h
  refine ⟨fun k q hk => ?_, ?_, fun k q hk => ?_⟩
  · obtain ⟨i, hi⟩ := List.getElem?_of_mem (hp.mem_iff.mpr (List.mem_of_getElem? hk))
    exact h1 i q hi
  · have hn : ((X ++ Y).map Prod.fst).Nodup := by
      refine List.pairwise_iff_getElem.mpr (fun i j hi hj hij he => ?_)
      rw [List.getElem_map, List.getElem_map] at he
      rw [List.length_map] at hi hj
      have := h2 i j _ _ (List.getElem?_eq_getElem hi) (List.getElem?_eq_getElem hj) he
      omega
    have hn' : ((X' ++ Y').map Prod.fst).Nodup := (hp.map Prod.fst).nodup_iff.mp hn
    have hn2 := List.pairwise_iff_getElem.mp hn'
    intro i j p q hi hj he
    obtain ⟨hli, ei⟩ := List.getElem?_eq_some_iff.mp hi
    obtain ⟨hlj, ej⟩ := List.getElem?_eq_some_iff.mp hj
    rcases Nat.lt_trichotomy i j with h | h | h
    · exact absurd (by rw [List.getElem_map, List.getElem_map, ei, ej, he]) (hn2 i j (by rw [List.length_map]; exact hli) (by rw [List.length_map]; exact hlj) h)
    · exact h
    · exact absurd (by rw [List.getElem_map, List.getElem_map, ei, ej, he]) (hn2 j i (by rw [List.length_map]; exact hlj) (by rw [List.length_map]; exact hli) h)
  · obtain ⟨i, hi⟩ := List.getElem?_of_mem (hp.mem_iff.mpr (List.mem_of_getElem? hk))
    exact h3 i q hi
theorem n_at {X Y : va_W} {k : Nat} {q : Nat × va_E} (h : X[k]? = some q) : (X ++ Y)[k]? = some q := by
  rw [List.getElem?_append_left (List.getElem?_eq_some_iff.mp h).1]; exact h
theorem n_set {X Y : va_W} {k : Nat} {q r : Nat × va_E} (h : X[k]? = some q) : (X ++ Y).set k r = X.set k r ++ Y := List.set_append_left _ _ (List.getElem?_eq_some_iff.mp h).1
theorem arrV_congr {c : ClassId} {N : Nat} {f g : Nat → Value} (h : ∀ j, j < N → f j = g j) : arrV c N f = arrV c N g := by
  unfold arrV
  congr 1
  exact Array.ext (by simp) (fun i h1 h2 => by simp at h1 ⊢; exact h i h1)
/-- what holds of a constructor's frame -/
def n_F (x : n_Cx) (own : String) (cc : ByteArray) (nL : Nat) (p : Program) (s : State) (m : MethodId) (args : Array Value) (meth : Method) (c : Code) : Prop :=
  p.tables.exec = Jvm.exec ∧ c.code = cc ∧ c.maxLocals = nL ∧ s.vm.findClass own = some m.cls ∧ (∀ w ∈ goodTbl, w.before args s = true) ∧ (own = "NeverCrossLaw" ∨ meth.name = "<init>") ∧ n_C x s
section NR
variable {p : Program} {l : Launch} {e : Env} {R : Room} {s : State} {m : MethodId} {args : Array Value} {below : List Frame} {meth : Method} {c : Code} {H : Heap} {locs : List Loc} {cells slots : Nat} {Q : State → Prop}
variable {cc : ByteArray} {pc : Nat} {ls : Array Slot} {rest : List Value} {x : n_Cx} {X Y : va_W} {own : String} {nL : Nat}
theorem n_newI (F : n_F x own cc nL p s m args meth c) (hH : n_H x X Y H) (hS : va_S (n_A x.S0) s.heap H locs) {n : Int32} {N : Nat} (hn : ¬ n < 0) (hN : n.toNatClampNeg = N) (hsm : N ≤ 100000) (hcl : Cond.arrayClass .int ∈ goodTbl) (hcells : cells + 1 ≤ R.cells) (hslots : slots + N ≤ R.slots) (hdg : decode cc pc = .ok (.newarray .int, 2))
    (kk : ∀ (q : Nat) (H1 : Heap), n_H x (X ++ [(q, n_ar x.cI N)]) Y H1 → va_S (n_A x.S0) s.heap H1 locs → W p l e R s m args below meth c H1 locs (cells + 1) (slots + N) Q (F0 m (pc + 2) ls (.ref q :: rest))) : W p l e R s m args below meth c H locs cells slots Q (F0 m pc ls (.int n :: rest)) := by
  obtain ⟨hx, hb, hml, hown, hts, hin, hK, hWd, hZ, hT, hs0⟩ := id F
  refine va_newa (atype := .int) (ty := .int) (N' := N) (a0 := (N, .inl (fun _ => 0))) hx hb (hts _ hcl) rfl hK hH.1 hH.2 hS (fun q h => Nat.le_trans hs0 h) (fun _ => rfl) hn hN (by show N * 4 ≤ _; omega) hcells hslots hdg (fun q cA H1 hK1 hP hD hS1 => ?_)
  have e1 : s.vm.findClass ("[" ++ FieldType.int.toString) = some x.cI := (hK.2 0 _ rfl).2
  have e2 : s.vm.findClass ("[" ++ FieldType.int.toString) = some cA := (hK1.2 3 _ rfl).2
  have e3 : cA = x.cI := Option.some.inj (e2.symm.trans e1)
  subst e3
  exact kk q H1 ⟨va_P.swap hP, va_D.swap hD⟩ hS1
theorem n_newO (F : n_F x own cc nL p s m args meth c) (hH : n_H x X Y H) (hS : va_S (n_A x.S0) s.heap H locs) {C : String} {T : u_T} {N index : Nat} (ci : Nat) (hin : ∀ w ∈ u_ws C T N, w ∈ goodTbl) (ty : Nat → FieldType) (hty : ∀ k, k < N → parseFieldDescriptor (T k).2.2.1 = some (ty k)) (hw : Cond.classLink own index C ∈ goodTbl ∧ Cond.instantiable C N ∈ goodTbl ∧ Cond.initialized C ∈ goodTbl) (hc : q_cl[ci]? = some (C, T, N)) {fs : List Value} (hfs : ∀ j, j < N → defaultValue (ty j) = vp_V fs j) (hcells : cells + 1 ≤ R.cells) (hslots : slots + N ≤ R.slots) (hdg : decode cc pc = .ok (.new index, 3))
    (kk : ∀ (q : Nat) (H1 : Heap), n_H x (X ++ [(q, .inr (ci, fs))]) Y H1 → va_S (n_A x.S0) s.heap H1 locs → W p l e R s m args below meth c H1 locs (cells + 1) (slots + N) Q (F0 m (pc + 3) ls (.ref q :: rest))) : W p l e R s m args below meth c H locs cells slots Q (F0 m pc ls rest) := by
  obtain ⟨hx, hb, hml, hown, hts, hin2, hK, hWd, hZ, hT, hs0⟩ := id F
  refine va_new (ci := ci) (fs := fs) hx hb hts hin ty hty hown (hts _ hw.1) (hts _ hw.2.1) (hts _ hw.2.2) hK hH.1 hH.2 hS (fun q h => Nat.le_trans hs0 h) hc hfs hcells hslots hdg (fun q H1 hP hD hS1 => ?_)
  exact kk q H1 ⟨va_P.swap hP, va_D.swap hD⟩ hS1
/-- a final field of this gets a reference, or a plain field an int -/
theorem n_putF (F : n_F x own cc nL p s m args meth c) (hH : n_H x X Y H) (hS : va_S (n_A x.S0) s.heap H locs) {C : String} {T : u_T} {N index ci a : Nat} {fs : List Value} (k : Nat) (ty0 : Nat → FieldType) (hp : q_cl[ci]? = some (C, T, N) ∧ (∀ w ∈ u_ws C T N, w ∈ goodTbl) ∧ k < N ∧ C = own ∧ (T k).1 = C ∧ Cond.fieldLink own index C (T k).2.1 (T k).2.2.1 ∈ goodTbl ∧ (∀ k, k < N → parseFieldDescriptor (T k).2.2.1 = some (ty0 k)) ∧ (∀ a, a < N → ∀ b, b < N → a ≠ b → (T a).2.1 ≠ (T b).2.1)) {v : Value} (he : X[0]? = some (a, .inr (ci, fs))) (hn : narrow (ty0 k) v = v) (hfit : fits (ty0 k) v = true) (hl : k < fs.length) (hdg : decode cc pc = .ok (.putfield index, 3))
    (kk : ∀ (H1 : Heap) (locs1 : List Loc), n_H x (X.set 0 (a, .inr (ci, fs.set k v))) Y H1 → va_S (n_A x.S0) s.heap H1 locs1 → W p l e R s m args below meth c H1 locs1 cells slots Q (F0 m (pc + 3) ls rest)) : W p l e R s m args below meth c H locs cells slots Q (F0 m pc ls (v :: .ref a :: rest)) := by
  obtain ⟨hx, hb, hml, hown, hts, hin2, hK, hWd, hZ, hT, hs0⟩ := id F
  obtain ⟨p1, p2, p3, p4, p5, p6, p7, p8⟩ := hp
  have hne : own ≠ "NeverCrossLaw" := by
    rw [← p4]
    exact (show ∀ r ∈ q_cl, r.1 ≠ "NeverCrossLaw" by decide +kernel) _ (List.mem_of_getElem? p1)
  have hin2 : meth.name = "<init>" := hin2.resolve_left hne
  cases hf : (T k).2.2.2 with
  | true =>
    refine va_putF (ci := ci) (v := v) (ty := ty0 k) hx hb hts p2 ty0 p7 p8 hown hK hH.1 hH.2 hS 0 (n_at he) p1 k p3 (hts _ p6) (fun z hz => by rw [p5] at hz; exact hz) hf hin2 (p5.trans p4) (p7 k p3) hn hfit hl hdg (fun H1 locs1 hP hD hS1 => ?_)
    rw [n_set he] at hP hD
    exact kk H1 locs1 ⟨hP, hD⟩ hS1
  | false =>
    refine va_put (ci := ci) (v := v) (ty := ty0 k) hx hb hts p2 ty0 p7 p8 hown hK hH.1 hH.2 hS 0 (n_at he) p1 k p3 (hts _ p6) (fun z hz => by rw [p5] at hz; exact hz) hf (p7 k p3) hn hfit hl hdg (fun H1 locs1 hP hD hS1 => ?_)
    rw [n_set he] at hP hD
    exact kk H1 locs1 ⟨hP, hD⟩ hS1
theorem n_get (F : n_F x own cc nL p s m args meth c) (hH : n_H x X Y H) {C : String} {T : u_T} {N index ci a : Nat} {fs : List Value} (q0 k : Nat) (hp : q_cl[ci]? = some (C, T, N) ∧ (∀ w ∈ u_ws C T N, w ∈ goodTbl) ∧ k < N ∧ (T k).1 = C ∧ Cond.fieldLink own index C (T k).2.1 (T k).2.2.1 ∈ goodTbl) {v : Value} (he : X[q0]? = some (a, .inr (ci, fs))) (hv : fs[k]? = some v) (hdg : decode cc pc = .ok (.getfield index, 3))
    (kk : W p l e R s m args below meth c H locs cells slots Q (F0 m (pc + 3) ls (v :: rest))) : W p l e R s m args below meth c H locs cells slots Q (F0 m pc ls (.ref a :: rest)) := by
  obtain ⟨hx, hb, hml, hown, hts, hin2, hK, hWd, hZ, hT, hs0⟩ := id F
  obtain ⟨p1, p2, p3, p5, p6⟩ := hp
  exact va_get (ci := ci) hx hb hts p2 hown hK hH.1 q0 (n_at he) p1 k p3 (hts _ p6) (fun z hz => by rw [p5] at hz; exact hz) hv hdg kk
theorem n_obj (F : n_F x own cc nL p s m args meth c) {index a : Nat} (hw : Cond.methodLink own index Lib.objectInit ∈ goodTbl ∧ Cond.instanceMethod Lib.objectInit ∈ goodTbl ∧ Cond.code Lib.objectInit ⟨#[0xb1]⟩ 1 none ∈ goodTbl) (hl : ls.size = nL) (hR : 1 ≤ R.frames ∧ 12 ≤ R.locals) (hdg : decode cc pc = .ok (.invokespecial index, 3))
    (kk : W p l e R s m args below meth c H locs cells slots Q (F0 m (pc + 3) ls [])) : W p l e R s m args below meth c H locs cells slots Q (F0 m pc ls [.ref a]) := by
  obtain ⟨hx, hb, hml, hown, hts, -⟩ := id F
  exact W.objInit hx hb hown (hts _ hw.1) (hts _ hw.2.1) (hts _ hw.2.2) rfl (by rw [hml]; exact hl) rfl hdg hR.1 hR.2 kk
end NR
abbrev n_rm (f mc ms : Nat) : Room := { frames := f, cells := mc, slots := ms, locals := 40 * f }
def n_Met (l : Launch) (x : n_Cx) (y : MethodName) (bytes : ByteArray) (maxL f mc ms : Nat) (av : List Value) (X0 : va_W) (X1 : (Nat → Nat) → va_W) : Prop :=
  ∀ Y : va_W, Met l y (Cond.code y bytes maxL none :: goodTbl) (n_rm f mc ms) (va_Pc av (fun U => n_C x U ∧ n_H x X0 Y U.heap)) (va_Qv (fun _ : Nat → Nat => True) (fun r t => n_H x (X1 r) Y t.heap) (n_A x.S0)) mc ms (n_A x.S0)
theorem n_C.to {x : n_Cx} {s U : State} {H : Heap} {locs : List Loc} (h : n_C x s) (hS : va_S (n_A x.S0) s.heap H locs) (hU : U.heap = H) (hW : s.WarmedH U.vm) : n_C x U := by
  obtain ⟨h1, h2, h3, h4, h5⟩ := h
  exact ⟨va_K.moved hW.alike h1, h2.warm hW, by rw [hU]; exact va_Z.moved hW.alike (h3.kept hS.2.1), by rw [hU]; exact va_T.moved hW.alike (h4.kept hS.2.1), by rw [hU]; exact Nat.le_trans h5 hS.1⟩
theorem n_C.same {x : n_Cx} {s U : State} (hv : s.vm = U.vm) (hh : s.heap = U.heap) (h : n_C x s) : n_C x U := by
  obtain ⟨h1, h2, h3, h4, h5⟩ := h
  have ha : s.vm.Alike U.vm := by rw [hv]; exact Vm.Alike.refl _
  exact ⟨va_K.moved ha h1, h2.same hv, by rw [← hh]; exact va_Z.moved ha h3, by rw [← hh]; exact va_T.moved ha h4, by rw [← hh]; exact h5⟩
theorem n_met {l : Launch} {x : n_Cx} {y : MethodName} {bytes : ByteArray} {maxL f mc ms : Nat} {av : List Value} {X0 : va_W} {X1 : (Nat → Nat) → va_W} (hplain : plainName y.cls = true) (hname : y.name = "<init>") (hlen : (lg_sl av).length ≤ maxL)
    (h : ∀ (p : Program) (e : Env) (R : Room) (s : State) (m : MethodId) (args : Array Value) (below : List Frame) (meth : Method) (c : Code) (H : Heap) (ls : Array Slot) (Q : State → Prop) (Y : va_W), n_F x y.cls bytes maxL p s m args meth c → n_H x X0 Y H → va_S (n_A x.S0) s.heap H [] → lv_has ls maxL (lv_args 0 av) → R.cells = mc → R.slots = ms → R.frames = f → R.locals = 40 * f →
      (∀ (r : Nat → Nat) (H1 : Heap) (locs1 : List Loc) (pc : Nat) (ls1 : Array Slot), n_H x (X1 r) Y H1 → va_S (n_A x.S0) s.heap H1 locs1 → decode bytes pc = .ok (.return_, 1) → W p l e R s m args below meth c H1 locs1 mc ms Q (F0 m pc ls1 [])) →
      W p l e R s m args below meth c H [] 0 0 Q (F0 m 0 ls [])) : n_Met l x y bytes maxL f mc ms av X0 X1 := by
  intro Y
  refine Met.ofW (cc := bytes) (maxL := maxL) (ret := none) hplain rfl ?_
  intro p e s m args below meth c s₁ B hml hv
  obtain ⟨rfl, hC, hH⟩ := hv
  have hts := atoms_spec (ws := Cond.code y bytes maxL none :: goodTbl) B.pre
  have hown : s.vm.findClass y.cls = some m.cls := findClass_of_methodNamed B.named
  have hlocks := B.notSynchronized
  have hin : meth.name = "<init>" := ((name_of_methodNamed B.named B.method).1).trans hname
  rw [lg_entry_eq]
  refine h p e _ s m _ below meth c s.heap _ _ Y ⟨B.exec, B.bytes, hml, hown, fun w hw => hts w (List.mem_cons_of_mem _ hw), Or.inr hin, hC⟩ hH va_S.rf (lv_entry av hlen) rfl rfl rfl rfl ?_
  intro r H1 locs1 pc ls1 hH1 hS1 hd
  exact W.vret B.exec B.bytes B.returns (fun t ht hW => ⟨⟨r, rfl, trivial, by show n_H x (X1 r) Y t.heap; rw [ht]; exact hH1⟩, hS1.F ht⟩) hS1.2.2 hd
theorem n_outer (c : ClassId) (N h0 : Nat) : ∀ i : Nat, Jvm.Free.Multi.outerC c N h0 i = arrV c N (fun j => va_rf (if j < i then some (h0 + 1 + j) else none))
  | 0 => by
    show ({ cls := c, slots := Array.replicate N .null, vm := .none } : Cell) = _
    rw [arrV_new]
    exact arrV_congr (fun j _ => by simp [va_rf])
  | i + 1 => by
    show (Jvm.Free.Multi.outerC c N h0 i).setSlot i (.ref (h0 + 1 + i)) = _
    rw [n_outer c N h0 i, arrV_store]
    refine arrV_congr (fun j _ => ?_)
    by_cases e : j = i
    · subst e
      simp [updV, va_rf]
    · by_cases h : j < i
      · simp [updV, e, h, Nat.lt_succ_of_lt h]
      · simp [updV, e, h, show ¬ j < i + 1 by omega]
section NR2
variable {p : Program} {l : Launch} {e : Env} {R : Room} {s : State} {m : MethodId} {args : Array Value} {below : List Frame} {meth : Method} {c : Code} {H : Heap} {locs : List Loc} {cells slots : Nat} {Q : State → Prop}
variable {cc : ByteArray} {pc : Nat} {ls : Array Slot} {rest : List Value} {x : n_Cx} {X Y : va_W} {own : String} {nL : Nat}
theorem n_call (F : n_F x own cc nL p s m args meth c) {X' X0 : va_W} (hH : n_H x X Y H) (hX : X = X' ++ X0) (hS : va_S (n_A x.S0) s.heap H locs) {y : MethodName} {bytes : ByteArray} {maxL f mc ms index n a : Nat} {As st0 : List Value} {X1 : (Nat → Nat) → va_W}
    (hM : n_Met l x y bytes maxL f mc ms (.ref a :: As) X0 X1) (hy : y.name = "<init>" ∧ y.cls ≠ "java/lang/invoke/MethodHandle" ∧ y.cls ≠ "java/lang/invoke/VarHandle" ∧ (parseMethodDescriptor y.desc).map (fun d => d.parameters.length) = some n)
    (hw : Cond.instanceMethod y ∈ goodTbl ∧ Cond.initialized y.cls ∈ goodTbl ∧ Cond.code y bytes maxL none ∈ goodTbl) (hlk : Cond.methodLink own index y ∈ goodTbl ∨ va_Nw (.methodLinkNest own index y "NeverCross") s)
    (hn : As.length = n) (hl : ls.size = nL) (hst : st0 = As.reverse ++ .ref a :: rest) (hR : f + 1 ≤ R.frames ∧ 8 + (maxL + 11) + 40 * f ≤ R.locals) (hsum : (rest.map fun v => v.category).sum ≤ 8) (hroom : cells + mc ≤ R.cells ∧ slots + ms ≤ R.slots) (hdg : decode cc pc = .ok (.invokespecial index, 3))
    (kk : ∀ (r : Nat → Nat) (H1 : Heap) (locs1 : List Loc), n_H x (X' ++ X1 r) Y H1 → va_S (n_A x.S0) s.heap H1 locs1 → W p l e R s m args below meth c H1 locs1 (cells + mc) (slots + ms) Q (F0 m (pc + 3) ls rest)) : W p l e R s m args below meth c H locs cells slots Q (F0 m pc ls st0) := by
  obtain ⟨hx, hb, hml, hown, hts, hin2, hC⟩ := id F
  subst hst
  subst hX
  have hH0 : n_H x X0 (X' ++ Y) H := hH.perm (by
    rw [← List.append_assoc]
    exact List.Perm.append_right Y List.perm_append_comm)
  have hG : GoodIn goodTbl (Cond.code y bytes maxL none :: goodTbl) := q_goodIn (fun w hw2 => (List.mem_cons.mp hw2).elim (fun e => by rw [e]; exact hw.2.2) id)
  have hPre : PreS s H (va_Pc (.ref a :: As) (fun U => n_C x U ∧ n_H x X0 (X' ++ Y) U.heap)) (.ref a :: As) :=
    ⟨fun b U g mk q => ⟨q.1, n_C.same (s := U) (U := U.calling g mk b) rfl rfl q.2.1, q.2.2⟩, fun U hU hW => ⟨rfl, hC.to hS hU hW, by rw [hU]; exact hH0⟩⟩
  have hRun : va_Run p l e R s m args below meth c H locs cells slots mc ms (F0 m pc ls (As.reverse ++ .ref a :: rest)) rest (va_Qv (fun _ : Nat → Nat => True) (fun r t => n_H x (X1 r) (X' ++ Y) t.heap) (n_A x.S0) (Value.ref a :: As).toArray) (n_A x.S0) := by
    rcases hlk with hlk | hlk
    · exact va_runI (As := As) (rest := rest) ⟨hx, hb, hml, hown, hts⟩ (hM (X' ++ Y)) (cwI n hts hG rfl rfl rfl (hts _ hw.2.1) (hts _ hlk) (hts _ hw.1) hy.1 hy.2 hR) hPre rfl hn hl rfl (lv_room hsum) hdg hroom
    · exact va_runIN (As := As) (rest := rest) ⟨hx, hb, hml, hown, hts⟩ (hM (X' ++ Y)) ⟨va_cnB n hts hG rfl rfl rfl hlk (hts _ hw.2.1) hy.2 hR, hy.1, hts _ hw.1⟩ hPre rfl hn hl rfl (lv_room hsum) hdg hroom
  refine va_callv hRun hS (fun q _ h => h) (fun q h => h) (fun r t H1 locs1 ht hvm _ hB hz hk hS1 => ?_)
  have hB : n_H x (X1 r) (X' ++ Y) t.heap := hB
  rw [ht] at hB
  refine kk r H1 locs1 (hB.perm ?_) hS1
  rw [← List.append_assoc]
  exact List.Perm.append_right Y List.perm_append_comm
theorem n_newL (F : n_F x own cc nL p s m args meth c) (hH : n_H x X Y H) (hS : va_S (n_A x.S0) s.heap H locs) {n : Int32} {N index : Nat} (hn : ¬ n < 0) (hN : n.toNatClampNeg = N) (hsm : N ≤ 100000) (hw : Cond.classLink own index "NeverCross$Law" ∈ goodTbl) (hcells : cells + 1 ≤ R.cells) (hslots : slots + N ≤ R.slots) (hdg : decode cc pc = .ok (.anewarray index, 3))
    (kk : ∀ (q : Nat) (H1 : Heap), n_H x (X ++ [(q, .inl (x.cL, N, .inr (.inr (.inr (.inr (fun _ => none))))))]) Y H1 → va_S (n_A x.S0) s.heap H1 locs → W p l e R s m args below meth c H1 locs (cells + 1) (slots + N) Q (F0 m (pc + 3) ls (.ref q :: rest))) : W p l e R s m args below meth c H locs cells slots Q (F0 m pc ls (.int n :: rest)) := by
  obtain ⟨hx, hb, hml, hown, hts, hin, hK, hWd, hZ, hT, hs0⟩ := id F
  refine va_newq hx hb hown (hts _ hw) hWd.2.2.2.1 hK hH.1 hH.2 hS (fun q h => Nat.le_trans hs0 h) hn hN (by omega) hcells hslots hdg (fun q cA H1 hK1 hP hD hS1 => ?_)
  have e1 : s.vm.findClass ("[" ++ (FieldType.object "NeverCross$Law").toString) = some x.cL := by
    obtain ⟨kA, comp, z1, z2, z3, z4⟩ := (hK.2 2 _ rfl).2
    exact z4
  have e2 : s.vm.findClass ("[" ++ (FieldType.object "NeverCross$Law").toString) = some cA := by
    obtain ⟨kA, comp, z1, z2, z3, z4⟩ := (hK1.2 3 _ rfl).2
    exact z4
  have e3 : cA = x.cL := Option.some.inj (e2.symm.trans e1)
  subst e3
  exact kk q H1 ⟨va_P.swap hP, va_D.swap hD⟩ hS1
/-- an element of the laws gets a law -/
theorem n_ast (F : n_F x own cc nL p s m args meth c) (hH : n_H x X Y H) (hS : va_S (n_A x.S0) s.heap H locs) (q0 qk ci : Nat) {C : String} {T : u_T} {a n v : Nat} {vs : List Value} {f : Nat → Option Nat} (ha : X[q0]? = some (a, .inl (x.cL, n, .inr (.inr (.inr (.inr f)))))) (hv : X[qk]? = some (v, .inr (ci, vs))) (hc : q_cl[ci]? = some (C, T, 0)) (hca : C ∈ n_ca) {i : Int32} (hin : vp_in i n) (hdg : decode cc pc = .ok (.aastore, 1))
    (kk : ∀ (H1 : Heap) (locs1 : List Loc), n_H x (X.set q0 (a, .inl (x.cL, n, .inr (.inr (.inr (.inr (va_up f i.toNatClampNeg (some v)))))))) Y H1 → va_S (n_A x.S0) s.heap H1 locs1 → W p l e R s m args below meth c H1 locs1 cells slots Q (F0 m (pc + 1) ls rest)) : W p l e R s m args below meth c H locs cells slots Q (F0 m pc ls (.ref v :: .int i :: .ref a :: rest)) := by
  obtain ⟨hx, hb, hml, hown, hts, hin2, hK, hWd, hZ, hT, hs0⟩ := id F
  refine va_astqO hx hb hK hH.1 hH.2 hS q0 2 qk ci (n_at ha) rfl (hWd.2.1 C hca) (n_at hv) hc hin hdg (fun H1 locs1 hP hD hS1 => ?_)
  rw [n_set ha] at hP hD
  exact kk H1 locs1 ⟨hP, hD⟩ hS1
theorem n_ord9 (F : n_F x "NeverCross$Study" cc nL p s m args meth c) (hS : va_S (n_A x.S0) s.heap H locs) (hdg : decode cc pc = .ok (.getstatic 15, 3)) (hd2 : decode cc (pc + 3) = .ok (.arraylength, 1))
    (kk : W p l e R s m args below meth c H locs cells slots Q (F0 m (pc + 4) ls (.int 9 :: rest))) : W p l e R s m args below meth c H locs cells slots Q (F0 m pc ls rest) := by
  obtain ⟨hx, hb, hml, hown, hts, hin2, hK, hWd, hZ, hT, hs0⟩ := id F
  refine va_getsN hx hb hZ hS hown (hWd.2.2.1) (fun z hz => hz) hdg ?_
  exact va_tlen hx hb hT hS rfl hd2 kk
/-- new int[n][k] -/
theorem n_mna (F : n_F x own cc nL p s m args meth c) (hH : n_H x X Y H) (hS : va_S (n_A x.S0) s.heap H locs) {n k : Int32} {N K index : Nat} (hn : ¬ n < 0) (hk : ¬ k < 0) (hN : n.toNatClampNeg = N) (hK0 : k.toNatClampNeg = K) (hsm : N ≤ 100000 ∧ K ≤ 100000) (hw : Cond.classLink own index "[[I" ∈ goodTbl ∧ Cond.arrayClass .int ∈ goodTbl) (hcells : cells + (1 + N) ≤ R.cells) (hslots : slots + (N + N * K) ≤ R.slots) (hdg : decode cc pc = .ok (.multianewarray index 2, 4))
    (kk : ∀ (q : Nat) (L : List Nat) (H1 : Heap), L.length = N → n_H x (X ++ ((q, n_aq x.cII N (fun i => L.getD i 0)) :: L.map (fun a => (a, n_ar x.cI K)))) Y H1 → va_S (n_A x.S0) s.heap H1 locs → W p l e R s m args below meth c H1 locs (cells + 1 + N) (slots + N + N * K) Q (F0 m (pc + 4) ls (.ref q :: rest))) : W p l e R s m args below meth c H locs cells slots Q (F0 m pc ls (.int k :: .int n :: rest)) := by
  obtain ⟨hx, hb, hml, hown, hts, hin2, hK, hWd, hZ, hT, hs0⟩ := id F
  subst hN
  subst hK0
  intro T hT9 Xs
  obtain ⟨vm₁, cA, comp, -, fA, fC, hO, -, X', step⟩ := Xs.multianewarray2F (ty := .int) hx hown (hts _ hw.1) (hWd.2.2.2.2 args) (hts _ hw.2) (g := F0 m pc ls (.int k :: .int n :: rest)) rfl (by rw [hb]; exact hdg) rfl hn hk (by omega) (by show k.toNatClampNeg * 4 ≤ _; omega) (by omega) rfl rfl hcells hslots
  have e1 : s.vm.findClass ("[" ++ FieldType.int.toString) = some x.cI := (hK.2 0 _ rfl).2
  have e2 : s.vm.findClass ("[" ++ (FieldType.array .int).toString) = some x.cII := (hK.2 1 _ rfl).2
  have e3 : cA = x.cII := Option.some.inj (fA.symm.trans e2)
  have e4 : comp = x.cI := Option.some.inj (fC.symm.trans e1)
  subst e3
  subst e4
  generalize hF : Jvm.Free.Multi.fill (T.setVm vm₁) x.cII x.cI n.toNatClampNeg k.toNatClampNeg (defaultValue .int) n.toNatClampNeg = Fi at X' step
  have hTh : (T.setVm vm₁).heap = H := hT9
  obtain ⟨f1, f2, -, -⟩ := Jvm.Free.Multi.fill_facts (T.setVm vm₁) x.cII x.cI n.toNatClampNeg k.toNatClampNeg (defaultValue .int) n.toNatClampNeg
  rw [hF, hTh] at f1 f2
  have hold : ∀ z : Nat, z < H.size → Fi.heap[z]? = H[z]? := fun z hz => by
    have := Jvm.Free.Multi.fill_old (T.setVm vm₁) x.cII x.cI n.toNatClampNeg k.toNatClampNeg (defaultValue .int) (a := z) (by rw [hTh]; exact hz) n.toNatClampNeg
    rw [hF, hTh] at this
    exact this
  have hrow : ∀ j : Nat, j < n.toNatClampNeg → Fi.heap[H.size + 1 + j]? = some (vp_cell x.cI (k.toNatClampNeg, .inl (fun _ => 0))) := fun j hj => by
    have := Jvm.Free.Multi.fill_inner (T.setVm vm₁) x.cII x.cI n.toNatClampNeg k.toNatClampNeg (defaultValue .int) n.toNatClampNeg j hj
    rw [hF, hTh] at this
    rw [this]
    exact congrArg some (arrV_new x.cI k.toNatClampNeg (.int 0))
  generalize hL : (List.range n.toNatClampNeg).map (fun i => H.size + 1 + i) = L
  have hrows : (List.range n.toNatClampNeg).map (fun i => ((H.size + 1 + i, n_ar x.cI k.toNatClampNeg) : Nat × va_E)) = L.map (fun a => (a, n_ar x.cI k.toNatClampNeg)) := by rw [← hL, List.map_map]; rfl
  have hout : Jvm.Free.Multi.outerC x.cII n.toNatClampNeg H.size n.toNatClampNeg = vp_cell x.cII (n.toNatClampNeg, .inr (.inr (.inr (.inr (fun i => some (L.getD i 0)))))) := by
    rw [vp_cell_q, n_outer]
    exact arrV_congr (fun j hj => by rw [if_pos hj, ← hL, List.getD_eq_getElem?_getD, List.getElem?_map, List.getElem?_range hj]; rfl)
  rw [hout] at f2
  have hP1 : va_P x.D q_cl ((X ++ Y) ++ ((H.size, n_aq x.cII n.toNatClampNeg (fun i => L.getD i 0)) :: (List.range n.toNatClampNeg).map (fun i => (H.size + 1 + i, n_ar x.cI k.toNatClampNeg)))) Fi.heap :=
    (hH.1.kept (fun k9 q hq => hold q.1 ((hH.1 k9 q hq).lt))).app (fun k9 q hq => by
      rcases List.mem_cons.mp (List.mem_of_getElem? hq) with rfl | hm
      · exact f2
      · obtain ⟨i, hi, rfl⟩ := List.mem_map.mp hm
        exact hrow i (List.mem_range.mp hi))
  have hlt : ∀ (k9 : Nat) (q : Nat × va_E), (X ++ Y)[k9]? = some q → q.1 < H.size := fun k9 q hq => (hH.1 k9 q hq).lt
  have hnew : ∀ (k9 : Nat) (q : Nat × va_E), ((H.size, n_aq x.cII n.toNatClampNeg (fun i => L.getD i 0)) :: (List.range n.toNatClampNeg).map (fun i => ((H.size + 1 + i, n_ar x.cI k.toNatClampNeg) : Nat × va_E)))[k9]? = some q → q.1 = H.size + k9 := fun k9 q hq => by
    cases k9 with
    | zero => cases hq; rfl
    | succ k9 =>
      rw [List.getElem?_cons_succ, List.getElem?_map] at hq
      by_cases h9 : k9 < n.toNatClampNeg
      · rw [List.getElem?_range h9] at hq
        cases hq
        show H.size + 1 + k9 = H.size + (k9 + 1)
        omega
      · rw [List.getElem?_eq_none (by rw [List.length_range]; omega)] at hq
        cases hq
  have hD1 : va_D (n_A x.S0) ((X ++ Y) ++ ((H.size, n_aq x.cII n.toNatClampNeg (fun i => L.getD i 0)) :: (List.range n.toNatClampNeg).map (fun i => (H.size + 1 + i, n_ar x.cI k.toNatClampNeg)))) := by
    refine ⟨fun i j a b hi hj hab => ?_, fun k9 q hq => ?_⟩
    · by_cases h1 : i < (X ++ Y).length <;> by_cases h2 : j < (X ++ Y).length
      · rw [List.getElem?_append_left h1] at hi
        rw [List.getElem?_append_left h2] at hj
        exact hH.2.1 i j a b hi hj hab
      · rw [List.getElem?_append_left h1] at hi
        rw [List.getElem?_append_right (by omega)] at hj
        have := hlt _ _ hi
        have := hnew _ _ hj
        omega
      · rw [List.getElem?_append_right (by omega)] at hi
        rw [List.getElem?_append_left h2] at hj
        have := hlt _ _ hj
        have := hnew _ _ hi
        omega
      · rw [List.getElem?_append_right (by omega)] at hi hj
        have := hnew _ _ hi
        have := hnew _ _ hj
        omega
    · by_cases h1 : k9 < (X ++ Y).length
      · rw [List.getElem?_append_left h1] at hq
        exact hH.2.2 k9 q hq
      · rw [List.getElem?_append_right (by omega)] at hq
        have := hnew _ _ hq
        have h6 := hS.1
        show x.S0 ≤ q.1
        omega
  rw [hrows] at hP1 hD1
  obtain ⟨t, a1, b1⟩ := kk H.size L Fi.heap (by rw [← hL]; simp) ⟨va_P.swap hP1, va_D.swap hD1⟩ ⟨by rw [f1]; have := hS.1; omega, fun z h1 h2 => (hold z (Nat.lt_of_lt_of_le h1 hS.1)).trans (hS.2.1 z h1 h2), hS.2.2⟩ Fi rfl X'
  refine ⟨t, step t ?_, b1⟩
  have e : T.heap.size = H.size := by rw [hT9]
  rw [e]
  exact a1
theorem n_fq {x : n_Cx} {X Y : va_W} {H : Heap} (hH : n_H x X Y H) (k : Nat) {a n : Nat} {cA : ClassId} {f g : Nat → Option Nat} (he : X[k]? = some (a, .inl (cA, n, .inr (.inr (.inr (.inr f)))))) (h : ∀ j, j < n → f j = g j) : n_H x (X.set k (a, .inl (cA, n, .inr (.inr (.inr (.inr g)))))) Y H := by
  obtain ⟨h1, h2, h3⟩ := hH
  have hk := (List.getElem?_eq_some_iff.mp (n_at (Y := Y) he)).1
  refine ⟨fun i q hi => ?_, fun i j p q hi hj e => ?_, fun i q hi => ?_⟩
  · rw [← n_set he] at hi
    by_cases hik : k = i
    · subst hik
      rw [List.getElem?_set_self hk] at hi
      cases hi
      have h9 := h1 k _ (n_at he)
      show H[a]? = some (vp_cell cA _)
      rw [vp_cell_q, ← arrV_congr (f := fun j => va_rf (f j)) (fun j hj => by rw [h j hj]), ← vp_cell_q]
      exact h9
    · rw [List.getElem?_set_ne hik] at hi
      exact h1 i q hi
  · rw [← n_set he] at hi hj
    have key : ∀ (i : Nat) (p : Nat × va_E), ((X ++ Y).set k (a, .inl (cA, n, .inr (.inr (.inr (.inr g))))))[i]? = some p → ∃ p', (X ++ Y)[i]? = some p' ∧ p'.1 = p.1 := fun i p hp => by
      by_cases hik : k = i
      · subst hik
        rw [List.getElem?_set_self hk] at hp
        cases hp
        exact ⟨(a, .inl (cA, n, .inr (.inr (.inr (.inr f))))), n_at he, rfl⟩
      · rw [List.getElem?_set_ne hik] at hp
        exact ⟨p, hp, rfl⟩
    obtain ⟨p', a1, a2⟩ := key i p hi
    obtain ⟨q', b1, b2⟩ := key j q hj
    exact h2 i j p' q' a1 b1 (by rw [a2, b2]; exact e)
  · rw [← n_set he] at hi
    by_cases hik : k = i
    · subst hik
      rw [List.getElem?_set_self hk] at hi
      cases hi
      exact h3 k (a, .inl (cA, n, .inr (.inr (.inr (.inr f))))) (n_at he)
    · rw [List.getElem?_set_ne hik] at hi
      exact h3 i q hi
end NR2
theorem n_push {x : n_Cx} {a : Nat × va_E} {B T Y : va_W} {H : Heap} (h : n_H x (a :: B) (T ++ Y) H) : n_H x [a] ((T ++ B) ++ Y) H := h.perm (by
  show List.Perm (a :: (B ++ (T ++ Y))) (a :: ((T ++ B) ++ Y))
  refine List.Perm.cons a ?_
  rw [← List.append_assoc]
  exact List.Perm.append_right Y List.perm_append_comm)
theorem n_getM {p : Program} {l : Launch} {e : Env} {R : Room} {s : State} {m : MethodId} {args : Array Value} {below : List Frame} {meth : Method} {c : Code} {H : Heap} {locs : List Loc} {cells slots : Nat} {Q : State → Prop} {cc : ByteArray} {pc : Nat} {ls : Array Slot} {rest : List Value} {x : n_Cx} {X Y : va_W} {own : String} {nL : Nat} (F : n_F x own cc nL p s m args meth c) (hH : n_H x X Y H) {C : String} {T : u_T} {N index ci a : Nat} {fs : List Value} (k : Nat) (hp : q_cl[ci]? = some (C, T, N) ∧ (∀ w ∈ u_ws C T N, w ∈ goodTbl) ∧ k < N ∧ (T k).1 = C ∧ Cond.fieldLink own index C (T k).2.1 (T k).2.2.1 ∈ goodTbl) {v : Value} (he : (a, .inr (ci, fs)) ∈ Y) (hv : fs[k]? = some v) (hdg : decode cc pc = .ok (.getfield index, 3))
    (kk : W p l e R s m args below meth c H locs cells slots Q (F0 m (pc + 3) ls (v :: rest))) : W p l e R s m args below meth c H locs cells slots Q (F0 m pc ls (.ref a :: rest)) := by
  obtain ⟨hx, hb, hml, hown, hts, hin2, hK, hWd, hZ, hT, hs0⟩ := id F
  obtain ⟨p1, p2, p3, p5, p6⟩ := hp
  obtain ⟨q0, hq0⟩ := List.getElem?_of_mem (List.mem_append_right X he)
  exact va_get (ci := ci) hx hb hts p2 hown hK hH.1 q0 hq0 p1 k p3 (hts _ p6) (fun z hz => by rw [p5] at hz; exact hz) hv hdg kk
