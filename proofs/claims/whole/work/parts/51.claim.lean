def R_law : String := "NeverCrossLaw"
def lw_P (b : Addr) (xs : List Int32) (args : Array Value) (s : State) : Prop := args = #[.ref b] ∧ s.IntsAt b xs ∧ xs.length ≤ 2048 ∧ (Jvm.Cond.and given_1 narrow_1).before args s = true
def lw_Q (_ : Array Value) (s : State) (o : Outcome) (t : State) : Prop := o = .returned (some (.int 1)) ∧ Framed s o t [] 600000 7302250
def lw_Z (below : List Frame) (a : Array Value) (s : State) : State → Prop := fun t => ∃ o, t.status = .running ∧ Ended t below o ∧ lw_Q a s o t
/-- the law's own end, with 1 on the stack, nothing written that was there before, its room as the claim has it -/
theorem lw_ret {p : Program} {l : Launch} {e : Env} {s : State} {m : MethodId} {below : List Frame} {meth : Method} {c : Code} {b : Nat} (hx : p.tables.exec = Jvm.exec) (hb : c.code = code) (hr : meth.sig.returnType = ret) (hlocks : meth.locks = false) {pc : Nat} {H : Heap} {ls : Array Slot} (hdg : decode code pc = .ok (.ireturn, 1)) : W p l e room_1 s m #[Value.ref b] below meth c H [] 600000 7302250 (lw_Z below #[Value.ref b] s) (F0 m pc ls [.int 1]) := by
  intro T hT X
  obtain ⟨fs, hret, hrun, hended, hW, hframe⟩ := X.leave (v := some (.int 1)) (hlocks := hlocks) (fun h => by rw [hr] at h; cases h)
  have hmeth' : T.vm.method? m = some meth := X.method'
  refine ⟨T.setFrames fs, ?_, .returned (some (.int 1)), hrun, hended, rfl, ⟨_, rfl⟩, hW, hframe⟩
  jvm_step X.here [X.here.top, hx, hb, hdg, hmeth', hr, ret, narrow_b1]
  (try refine ⟨rfl, ?_⟩); (try refine ⟨rfl, ?_⟩)
  first | (intro acts; rw [hret _ acts rfl rfl rfl]) | rw [hret _ _ rfl rfl rfl]
  exact Steps.refl _
/-- what holds at the law's entry: the machine, the code, the tables' words (any of lw_tbl by 'hts w (by decide +kernel)'), the script of L ints xs at the cell b, what the Statement gives of the start (any of its parts by flat_of_before) -/
def lw_At (p : Program) (s : State) (m : MethodId) (meth : Method) (c : Code) (b L : Nat) (xs : Nat → Int32) : Prop :=
  p.tables.exec = Jvm.exec ∧ c.code = code ∧ meth.sig.returnType = ret ∧ c.maxLocals = 4 ∧ s.vm.findClass R_law = some m.cls ∧ (∀ w ∈ lw_tbl, w.before #[Value.ref b] s = true) ∧ va_X b L xs s s.heap ∧ b < s.heap.size ∧ meth.locks = false ∧ (Jvm.Cond.and given_1 narrow_1).before #[Value.ref b] s = true
theorem n_Zn {C n d : String} {v : Value} {A B : Nat → Prop} {U : State} {H : Heap} (h : va_Z C n d v A U H) (hAB : ∀ q, B q → A q) : va_Z C n d v B U H := by
  obtain ⟨cf, kf, fi, f, a, cell, h1, h2, h3, h4, h5, h6, h7, h8⟩ := h
  exact ⟨cf, kf, fi, f, a, cell, h1, h2, h3, h4, h5, h6, h7, fun z => h8 (hAB a z)⟩
set_option maxHeartbeats 4000000 in
set_option maxRecDepth 100000 in
theorem n_stat {s : State} {b : Nat} (hts : ∀ w ∈ lw_tbl, w.before #[Value.ref b] s = true) (hgv : (Jvm.Cond.and given_1 narrow_1).before #[Value.ref b] s = true) : ∃ t0 t1 t2 : Nat, (va_Z "NeverCross" "ORDERS" "[I" (.ref t0) (n_A s.heap.size) s s.heap ∧ va_T .int t0 9 (fun j => .int (([0, 10, 1, 210, 120, 201, 21, 102, 12] : List Int32).getD j 0)) (n_A s.heap.size) s s.heap) ∧ (va_Z "NeverCross" "ORDER_STARTS" "[I" (.ref t1) (n_A s.heap.size) s s.heap ∧ va_T .int t1 5 (fun j => .int (([0, 0, 1, 3, 9] : List Int32).getD j 0)) (n_A s.heap.size) s s.heap) ∧ (va_Z "NeverCross" "TENS" "[I" (.ref t2) (n_A s.heap.size) s s.heap ∧ va_T .int t2 3 (fun j => .int (([1, 10, 100] : List Int32).getD j 0)) (n_A s.heap.size) s s.heap) := by
  have hs := flat_of_before _ hgv
  have hA : ∀ a : Nat, a < s.heap.size → ¬ n_A s.heap.size a := fun a h => Nat.not_le.mpr h
  have hini : (Cond.initialized "NeverCross").before #[Value.ref b] s = true := hts _ (by decide +kernel)
  obtain ⟨t0, e0, T0⟩ := (va_Tof (tm := (.static "NeverCross" "ORDERS" "[I")) (ty := .int) (N := 9) (f := fun j => .int (([0, 10, 1, 210, 120, 201, 21, 102, 12] : List Int32).getD j 0)) (A := n_A s.heap.size) (by decide) (hs (.arrayOf (.static "NeverCross" "ORDERS" "[I") .int) (by decide +kernel)) (va_eqt (z := 9) (hs (.eq (.length (.static "NeverCross" "ORDERS" "[I")) (.int 9)) (by decide +kernel))) (fun j hj => by
    rcases (show j = 0 ∨ j = 1 ∨ j = 2 ∨ j = 3 ∨ j = 4 ∨ j = 5 ∨ j = 6 ∨ j = 7 ∨ j = 8 by omega) with rfl | rfl | rfl | rfl | rfl | rfl | rfl | rfl | rfl
    · exact va_eqt (z := 0) (hs (.eq (.elem (.static "NeverCross" "ORDERS" "[I") (.int 0)) (.int 0)) (by decide +kernel))
    · exact va_eqt (z := 10) (hs (.eq (.elem (.static "NeverCross" "ORDERS" "[I") (.int 1)) (.int 10)) (by decide +kernel))
    · exact va_eqt (z := 1) (hs (.eq (.elem (.static "NeverCross" "ORDERS" "[I") (.int 2)) (.int 1)) (by decide +kernel))
    · exact va_eqt (z := 210) (hs (.eq (.elem (.static "NeverCross" "ORDERS" "[I") (.int 3)) (.int 210)) (by decide +kernel))
    · exact va_eqt (z := 120) (hs (.eq (.elem (.static "NeverCross" "ORDERS" "[I") (.int 4)) (.int 120)) (by decide +kernel))
    · exact va_eqt (z := 201) (hs (.eq (.elem (.static "NeverCross" "ORDERS" "[I") (.int 5)) (.int 201)) (by decide +kernel))
    · exact va_eqt (z := 21) (hs (.eq (.elem (.static "NeverCross" "ORDERS" "[I") (.int 6)) (.int 21)) (by decide +kernel))
    · exact va_eqt (z := 102) (hs (.eq (.elem (.static "NeverCross" "ORDERS" "[I") (.int 7)) (.int 102)) (by decide +kernel))
    · exact va_eqt (z := 12) (hs (.eq (.elem (.static "NeverCross" "ORDERS" "[I") (.int 8)) (.int 12)) (by decide +kernel))
    ) hA)
  obtain ⟨t1, e1, T1⟩ := (va_Tof (tm := (.static "NeverCross" "ORDER_STARTS" "[I")) (ty := .int) (N := 5) (f := fun j => .int (([0, 0, 1, 3, 9] : List Int32).getD j 0)) (A := n_A s.heap.size) (by decide) (hs (.arrayOf (.static "NeverCross" "ORDER_STARTS" "[I") .int) (by decide +kernel)) (va_eqt (z := 5) (hs (.eq (.length (.static "NeverCross" "ORDER_STARTS" "[I")) (.int 5)) (by decide +kernel))) (fun j hj => by
    rcases (show j = 0 ∨ j = 1 ∨ j = 2 ∨ j = 3 ∨ j = 4 by omega) with rfl | rfl | rfl | rfl | rfl
    · exact va_eqt (z := 0) (hs (.eq (.elem (.static "NeverCross" "ORDER_STARTS" "[I") (.int 0)) (.int 0)) (by decide +kernel))
    · exact va_eqt (z := 0) (hs (.eq (.elem (.static "NeverCross" "ORDER_STARTS" "[I") (.int 1)) (.int 0)) (by decide +kernel))
    · exact va_eqt (z := 1) (hs (.eq (.elem (.static "NeverCross" "ORDER_STARTS" "[I") (.int 2)) (.int 1)) (by decide +kernel))
    · exact va_eqt (z := 3) (hs (.eq (.elem (.static "NeverCross" "ORDER_STARTS" "[I") (.int 3)) (.int 3)) (by decide +kernel))
    · exact va_eqt (z := 9) (hs (.eq (.elem (.static "NeverCross" "ORDER_STARTS" "[I") (.int 4)) (.int 9)) (by decide +kernel))
    ) hA)
  obtain ⟨t2, e2, T2⟩ := (va_Tof (tm := (.static "NeverCross" "TENS" "[I")) (ty := .int) (N := 3) (f := fun j => .int (([1, 10, 100] : List Int32).getD j 0)) (A := n_A s.heap.size) (by decide) (hs (.arrayOf (.static "NeverCross" "TENS" "[I") .int) (by decide +kernel)) (va_eqt (z := 3) (hs (.eq (.length (.static "NeverCross" "TENS" "[I")) (.int 3)) (by decide +kernel))) (fun j hj => by
    rcases (show j = 0 ∨ j = 1 ∨ j = 2 by omega) with rfl | rfl | rfl
    · exact va_eqt (z := 1) (hs (.eq (.elem (.static "NeverCross" "TENS" "[I") (.int 0)) (.int 1)) (by decide +kernel))
    · exact va_eqt (z := 10) (hs (.eq (.elem (.static "NeverCross" "TENS" "[I") (.int 1)) (.int 10)) (by decide +kernel))
    · exact va_eqt (z := 100) (hs (.eq (.elem (.static "NeverCross" "TENS" "[I") (.int 2)) (.int 100)) (by decide +kernel))
    ) hA)
  exact ⟨t0, t1, t2, ⟨va_Zof (hts (.laysStatic "NeverCross" "ORDERS" "[I") (by decide +kernel)) hini e0 hA, T0⟩, ⟨va_Zof (hts (.laysStatic "NeverCross" "ORDER_STARTS" "[I") (by decide +kernel)) hini e1 hA, T1⟩, ⟨va_Zof (hts (.laysStatic "NeverCross" "TENS" "[I") (by decide +kernel)) hini e2 hA, T2⟩⟩
set_option maxHeartbeats 4000000 in
set_option maxRecDepth 100000 in
/-- THE LAW, from its entry -/
theorem whole_start {p : Program} {e : Env} {s : State} {m : MethodId} {below : List Frame} {meth : Method} {c : Code} (l : Launch) (hflags : l.flags = flags0) {b L : Nat} {xs : Nat → Int32} (hL : L ≤ 2048) (C0 : lw_At p s m meth c b L xs) : W p l e room_1 s m #[Value.ref b] below meth c s.heap [] 0 0 (lw_Z below #[Value.ref b] s) (entryFrame m ([Value.ref b] : List Value).toArray 4) := by
  obtain ⟨hx, hb, hr, hml, hown, hts, hX, hbl, hlocks, hgv⟩ := id C0
  have hgt : ∀ w ∈ goodTbl, w.before #[Value.ref b] s = true := fun w hw => hts w (List.mem_filter.mp hw).1
  have hWd := n_wd hts
  obtain ⟨D, hD⟩ := n_known hgt
  obtain ⟨cI, cII, cL, hK⟩ := n_arrs hgt hWd hD
  obtain ⟨t0, t1, t2, ⟨hZ0, hT0⟩, ⟨hZ1, hT1⟩, ⟨hZ2, hT2⟩⟩ := n_stat hts hgv
  obtain ⟨x, hxe⟩ : ∃ x : n_Cx, x = (D, cI, cII, cL, s.heap.size, t0) := ⟨_, rfl⟩
  have hKx : va_K x.D q_cl (n_ty x.cI x.cII x.cL) s := by rw [hxe]; exact hK
  have hS0 : x.S0 = s.heap.size := by rw [hxe]
  have F : n_F x "NeverCrossLaw" (q_mB 159) 4 p s m #[Value.ref b] meth c := ⟨hx, hb, hml, hown, hgt, Or.inl rfl, hKx, hWd, by rw [hxe]; exact hZ0, by rw [hxe]; exact hT0, Nat.le_of_eq hS0⟩
  have hl := lv_entry ([.ref b]) (n := 4) (Nat.le_of_ble_eq_true rfl)
  rw [lg_entry_eq]
  generalize (lg_sl ([.ref b]) ++ List.replicate (4 - (lg_sl ([.ref b])).length) Slot.unset).toArray = ls at hl ⊢
  have hl : lv_has ls 4 [(0, .ref b)] := hl
  have hH : n_H x [] [] s.heap := ⟨fun k q h => by simp at h, fun i j p q h => by simp at h, fun k q h => by simp at h⟩
  have hS : va_S (n_A x.S0) s.heap s.heap [] := va_S.rf
  refine n_newO F hH hS (C := RX11) (T := TX11) (N := 17) 10 ingX11 tyX11 tyX11_ok ⟨nC_L_7, nN_X11, nZ_X11⟩ rfl (fs := [.null, .int 0, .null, .null, .null, .null, .int 0, .null, .null, .null, .null, .null, .null, .null, .int 0, .int 0, .int 0]) (fun j hj => by rcases (show j = 0 ∨ j = 1 ∨ j = 2 ∨ j = 3 ∨ j = 4 ∨ j = 5 ∨ j = 6 ∨ j = 7 ∨ j = 8 ∨ j = 9 ∨ j = 10 ∨ j = 11 ∨ j = 12 ∨ j = 13 ∨ j = 14 ∨ j = 15 ∨ j = 16 by omega) with rfl | rfl | rfl | rfl | rfl | rfl | rfl | rfl | rfl | rfl | rfl | rfl | rfl | rfl | rfl | rfl | rfl <;> rfl) (Nat.le_of_ble_eq_true rfl) (Nat.le_of_ble_eq_true rfl) k159_0 (fun q0 H hH hS => ?_)
  have hH : n_H x ([] ++ [(q0, .inr (10, [.null, .int 0, .null, .null, .null, .null, .int 0, .null, .null, .null, .null, .null, .null, .null, .int 0, .int 0, .int 0]))]) [] H := hH
  refine lv_dup hx hb k159_3 rfl ?_
  refine n_call F (X' := []) (X0 := [(q0, .inr (10, [.null, .int 0, .null, .null, .null, .null, .int 0, .null, .null, .null, .null, .null, .null, .null, .int 0, .int 0, .int 0]))]) hH rfl hS (n := 0) (As := []) (rest := [.ref q0]) (n_iX11 l x q0) ⟨rfl, by decide, by decide, by decide +kernel⟩ ⟨nM_X11, nZ_X11, nB_X11⟩ (Or.inl nL_L_9) rfl hl.1 rfl ⟨Nat.le_of_ble_eq_true rfl, Nat.le_of_ble_eq_true rfl⟩ (Nat.le_of_ble_eq_true rfl) ⟨Nat.le_of_ble_eq_true rfl, Nat.le_of_ble_eq_true rfl⟩ k159_4 (fun r H locs hH hS => ?_)
  refine lv_astore_n (lv' := [(1, .ref q0), (0, .ref b)]) hx hb k159_7 rfl hl (by decide) rfl (fun ls hl => ?_)
  refine n_newO F hH hS (C := RX12) (T := TX12) (N := 28) 11 ingX12 tyX12 tyX12_ok ⟨nC_L_10, nN_X12, nZ_X12⟩ rfl (fs := [.null, .null, .null, .null, .int 0, .null, .int 0, .int 0, .int 0, .null, .null, .null, .null, .null, .null, .null, .null, .null, .null, .null, .int 0, .int 0, .int 0, .int 0, .int 0, .null, .null, .int 0]) (fun j hj => by rcases (show j = 0 ∨ j = 1 ∨ j = 2 ∨ j = 3 ∨ j = 4 ∨ j = 5 ∨ j = 6 ∨ j = 7 ∨ j = 8 ∨ j = 9 ∨ j = 10 ∨ j = 11 ∨ j = 12 ∨ j = 13 ∨ j = 14 ∨ j = 15 ∨ j = 16 ∨ j = 17 ∨ j = 18 ∨ j = 19 ∨ j = 20 ∨ j = 21 ∨ j = 22 ∨ j = 23 ∨ j = 24 ∨ j = 25 ∨ j = 26 ∨ j = 27 by omega) with rfl | rfl | rfl | rfl | rfl | rfl | rfl | rfl | rfl | rfl | rfl | rfl | rfl | rfl | rfl | rfl | rfl | rfl | rfl | rfl | rfl | rfl | rfl | rfl | rfl | rfl | rfl | rfl <;> rfl) (Nat.le_of_ble_eq_true rfl) (Nat.le_of_ble_eq_true rfl) k159_8 (fun qm H hH hS => ?_)
  refine lv_dup hx hb k159_11 rfl ?_
  refine n_call F (X' := [] ++ n_nc x q0 r) (X0 := [(qm, .inr (11, [.null, .null, .null, .null, .int 0, .null, .int 0, .int 0, .int 0, .null, .null, .null, .null, .null, .null, .null, .null, .null, .null, .null, .int 0, .int 0, .int 0, .int 0, .int 0, .null, .null, .int 0]))]) hH rfl hS (n := 0) (As := []) (rest := [.ref qm]) (n_iX12 l x qm) ⟨rfl, by decide, by decide, by decide +kernel⟩ ⟨nM_X12, nZ_X12, nB_X12⟩ (Or.inl nL_L_12) rfl hl.1 rfl ⟨Nat.le_of_ble_eq_true rfl, Nat.le_of_ble_eq_true rfl⟩ (Nat.le_of_ble_eq_true rfl) ⟨Nat.le_of_ble_eq_true rfl, Nat.le_of_ble_eq_true rfl⟩ k159_12 (fun rm H locs hH hS => ?_)
  have hH : n_H x (n_nc x q0 r ++ n_model x qm rm) [] H := hH
  refine lv_astore_n (lv' := [(2, .ref qm), (1, .ref q0), (0, .ref b)]) hx hb k159_15 rfl hl (by decide) rfl (fun ls hl => ?_)
  refine lv_iconst (v := 0) hx hb k159_16 (by decide) ?_
  refine lv_istore_n (lv' := [(3, .int 0), (2, .ref qm), (1, .ref q0), (0, .ref b)]) hx hb k159_17 rfl hl (by decide) rfl (fun ls hl => ?_)
  obtain ⟨ts, hts9⟩ : ∃ ts : Nat → Nat, ts = (fun j => if j = 0 then t0 else if j = 1 then t1 else if j = 2 then t2 else b) := ⟨_, rfl⟩
  obtain ⟨hP, hinj, hAq⟩ := n_fin (ts := ts) hH
  refine va_forget (fun q hq => by rw [← hS0]; exact hS.2.2 q hq) ?_
  have r0 : n_ρ q0 qm r rm ts (1000 + 0) = t0 := by rw [hts9]; rfl
  have r1 : n_ρ q0 qm r rm ts (1000 + 1) = t1 := by rw [hts9]; rfl
  have r2 : n_ρ q0 qm r rm ts (1000 + 2) = t2 := by rw [hts9]; rfl
  have r3 : n_ρ q0 qm r rm ts (1000 + 3) = b := by rw [hts9]; rfl
  have hnar : ∀ q, q_A (n_ρ q0 qm r rm ts) q → n_A s.heap.size q := fun q hq => by
    have := hAq q hq
    rw [hS0] at this
    exact this
  have hTb : va_T .int b L (fun t => .int (xs t)) (n_A s.heap.size) s s.heap := by
    obtain ⟨scr, h1, h2, h3, h4, h5⟩ := hX
    exact ⟨scr, h1, h2, h3, Nat.le_of_eq h4.symm, by rw [h4], h5, Nat.not_le.mpr hbl⟩
  have hRo : q_Ro (n_ρ q0 qm r rm ts) (L, xs) s s.heap := by
    refine ⟨fun j hj => ?_, fun j hj => ?_⟩
    · rcases (show j = 0 ∨ j = 1 ∨ j = 2 ∨ j = 3 by omega) with rfl | rfl | rfl | rfl
      · rw [r0]; exact hT0.narrow hnar
      · rw [r1]; exact hT1.narrow hnar
      · rw [r2]; exact hT2.narrow hnar
      · rw [r3]; exact hTb.narrow hnar
    · rcases (show j = 0 ∨ j = 1 ∨ j = 2 by omega) with rfl | rfl | rfl
      · rw [r0]; exact n_Zn hZ0 hnar
      · rw [r1]; exact n_Zn hZ1 hnar
      · rw [r2]; exact n_Zn hZ2 hnar
  have hl : lv_has ls 4 [(0, .ref (n_ρ q0 qm r rm ts 1003)), (1, .ref (n_ρ q0 qm r rm ts 0)), (2, .ref (n_ρ q0 qm r rm ts 97)), (3, .int (nI (4 * 0)))] := by
    rw [show n_ρ q0 qm r rm ts 1003 = b from r3]
    exact lv_sub hl [3, 2, 1, 0] rfl
  refine law_loop (X := (L, xs)) (d := 1000) (K := fun r _ => r = 1) (by decide) hL (fun _ => rfl) 513 0 n_M0 rfl n_inv l (n_ρ q0 qm r rm ts) (n_cA x) x.D p e room_1 s m #[Value.ref b] below meth c _ _ (lw_Z below #[Value.ref b] s) ⟨hx, hb, hml, hown, hgt, ⟨Nat.le_of_ble_eq_true rfl, Nat.le_of_ble_eq_true rfl, Nat.le_of_ble_eq_true rfl, Nat.le_of_ble_eq_true rfl⟩, n_K hKx, n_nw hts, hRo, hinj⟩ H [] ls hP ⟨hS.1, fun q h1 h2 => hS.2.1 q h1 (by rw [hS0]; exact Nat.not_le.mpr h1), fun q hq => absurd hq List.not_mem_nil⟩ hl ?_
  intro v M' H' locs' pc' ls' hQ hP' hS' hrt
  obtain ⟨z, rfl, hz⟩ := hQ
  have hz : z = 1 := hz
  subst hz
  rcases hrt with ⟨x', e', hd, _⟩ | ⟨e', _⟩ | ⟨k, C, e', _⟩
  · exact va_forget (fun q hq => hnar _ (hS'.2.2 q hq)) (W.widen (k := 600000) (n := 7302250) (Nat.le_of_ble_eq_true rfl) (Nat.le_of_ble_eq_true rfl) (lw_ret hx hb hr hlocks hd))
  · cases e'
  · cases e'
set_option maxHeartbeats 4000000 in
theorem lw_walk (l : Launch) (hflags : l.flags = flags0) (b : Addr) (xs : List Int32) : MetFree l x (headSpec (Jvm.Cond.code x code maxLocals ret :: tables_1) room_1) (lw_P b xs) (fun _ _ _ _ _ => True) lw_Q := by
  refine MetFree.of_bodyS (code := code) (maxLocals := maxLocals) (ret := ret) (by decide) ?_ ?_
  · intro args s m h hn
    obtain ⟨meth, c, h1, h2, h3, h4, h5, h6, -, -⟩ := Cond.code_spec hn (atoms_spec (ws := Jvm.Cond.code x code maxLocals ret :: tables_1) h _ List.mem_cons_self)
    exact ⟨meth, c, h1, h2, h3, h4, h5, h6⟩
  · intro p e s m args below meth c s₁ B hml0 hP _
    obtain ⟨rfl, hx, hbd, hgv⟩ := hP
    obtain ⟨scr, harrAt, hlist, hof, hsmall⟩ := hx
    obtain ⟨hcb, hkn, -, -⟩ := State.arrayAt?_spec harrAt
    have hown : s.vm.findClass R_law = some m.cls := findClass_of_methodNamed B.named
    have hts0 : ∀ c ∈ (Jvm.Cond.code x code maxLocals ret :: tables_1), c.before #[Value.ref b] s = true := atoms_spec (ws := Jvm.Cond.code x code maxLocals ret :: tables_1) B.pre
    have hts : ∀ w ∈ lw_tbl, w.before #[Value.ref b] s = true := k2_hts_sels lw_privs (fun w hw => hts0 w (List.mem_cons_of_mem _ hw)) lw_privs_ok
    have hml : c.maxLocals = 4 := B.maxLocals_eq (hts0 _ List.mem_cons_self)
    have X₀ : Stand p l e room_1 s m #[Value.ref b] below meth c s₁ [] 0 0 := Stand.of_body B
    have hh0 : s₁.heap = s.heap := by rw [B.state]; rfl
    have hsz : scr.slots.size = xs.length := by rw [← Array.length_toList, hlist, List.length_map]
    have hval : ∀ j : Nat, j < xs.length → scr.slots[j]? = some (.int (xs.getD j 0)) := fun j hj => by
      rw [← Array.getElem?_toList, hlist]
      simp [hj]
    have hbl : b < s.heap.size := (Array.getElem?_eq_some_iff.mp hcb).1
    have hX : va_X b xs.length (fun j => xs.getD j 0) s s.heap := ⟨scr, hcb, hof, hkn, hsz, hval⟩
    have K : W p l e room_1 s m #[Value.ref b] below meth c s₁.heap [] 0 0 (lw_Z below #[Value.ref b] s) (entryFrame m ([Value.ref b] : List Value).toArray 4) := by
      rw [hh0]
      exact whole_start l hflags hbd ⟨B.exec, B.bytes, B.returns, hml, hown, hts, hX, hbl, B.notSynchronized, hgv⟩
    obtain ⟨t, a1, o, b1, b2, b3⟩ := K s₁ rfl X₀
    exact ⟨t, o, a1, b1, b2, b3⟩
theorem lw_pre_spec {args : Array Value} {s : State} (h : (Jvm.Cond.and given_1 narrow_1).before args s = true) (hr : rest_1_c.before args s = true) : ∃ (b : Addr) (xs : List Int32), lw_P b xs args s := by
  have hs := flat_of_before _ h
  have hq := flat_of_before _ hr
  have hc : (Cond.count 1).before args s = true := hs _ (by decide +kernel)
  have harr : (Cond.arrayOf (.arg 0) .int).before args s = true := hs _ (by decide +kernel)
  have hle : (Cond.le (.length (.arg 0)) (.int 2048)).before args s = true := hs _ (by decide +kernel)
  have hlen : (Cond.isInt (.length (.arg 0))).before args s = true := hq _ (by decide +kernel)
  have hall : (Cond.all (.arg 0) (.isInt (.elem (.arg 0) (.index 0)))).before args s = true := hq _ (by decide +kernel)
  obtain ⟨b, xs, hb, hx⟩ := State.ints_of_pre rfl harr hlen hall
  have hsm : xs.length < 2 ^ 31 := hx.choose_spec.2.2.2
  have hev : (Term.length (.arg 0)).eval args s none [] s = some (.int xs.length.toInt32) := hx.length_eval hb
  have hv := Cond.le_ints hev (show (Term.int 2048).eval args s none [] s = some (.int 2048) from rfl)
  have hd : xs.length.toInt32 ≤ 2048 := by
    simpa [Cond.before, Cond.holds, hv] using hle
  have hN : xs.length ≤ 2048 := (Int32.ofNat_le_ofNat hsm (by decide)).mp (show Int32.ofNat xs.length ≤ Int32.ofNat 2048 from hd)
  exact ⟨b, xs, Cond.one_arg hc (show args[0]? = some (.ref b) from hb), hx, hN, h⟩
theorem lw_comes (l : Launch) (hflags : l.flags = flags0) : Comes l x (Jvm.Cond.code x code maxLocals ret :: tables_1) room_1 (fun tb e args s => Calls_1 tb e args s ∧ rest_1 tb e args s ∧ Pre_1 tb e args s)
    (fun _ _ args s o t => lw_Q args s o t) := by
  intro p e ha hc hk s m args below hf hfit hheap happ hpre
  obtain ⟨b, xs, hP⟩ := lw_pre_spec hpre.2.2 hpre.2.1
  obtain ⟨k, o, h1, h2, h3, hQ⟩ := lw_walk l hflags b xs p e ha hc hk s m args below hf ((Spec.applies_iff_loose hf).mp happ).1 hP trivial
  exact ⟨k, o, h1, h2, h3, hQ⟩
theorem lw_frame {s t : State} {o : Outcome} {args : Array Value} (h : Framed s o t [] 600000 7302250) :
    Framed s o t (fieldLocs frame_1_writes args s ++ arrayLocs frame_1_arrays args s ++ staticLocs frame_1_statics s) 600000 7302250 := h
theorem lw_limb (L : Cond) (hL : ∀ (args : Array Value) (s t : State), L.after args s (.returned (some (.int 1))) t = true) :
    ArmFor flags0 classFile x code maxLocals ret World_1 tables_1 room_1 Calls_1 rest_1 Pre_1
      (fun tb e a s o t => postC L tb e a s o t ∧ Framed s o t (fieldLocs frame_1_writes a s ++ arrayLocs frame_1_arrays a s ++ staticLocs frame_1_statics s) 600000 7302250) := by
  intro l hflags _ _ p e ha hc hk s m args below hf hfit hheap happ hpre
  obtain ⟨k, o, h1, h2, h3, rfl, hF⟩ := lw_comes l hflags p e ha hc hk s m args below hf hfit hheap happ hpre
  exact ⟨k, _, h1, h2, h3, hL args s _, lw_frame hF⟩
theorem i_vc : Claimed_1_1 ∧ Claimed_1_2 := ⟨lw_limb limb_1_1 (fun args s t => by simp [limb_1_1, Cond.after, Cond.holds, Cond.value]), lw_limb limb_1_2 (fun args s t => Cond.after_iff.mpr (by
  first | (rw [show limb_1_2 = Cond.eq .result (.int 1) from rfl, Cond.eq_ints (x := 1) (y := 1) rfl rfl]; simp; done) | (simp [limb_1_2, Cond.value, Term.eval]; done)))⟩
