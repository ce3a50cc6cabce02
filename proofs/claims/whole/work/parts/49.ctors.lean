/-! the constructors -/
theorem nI_obji : Cond.instanceMethod Lib.objectInit ∈ goodTbl := q_in 79 (by decide +kernel) rfl
theorem nI_objc : Cond.code Lib.objectInit ⟨#[0xb1]⟩ 1 none ∈ goodTbl := q_in 80 (by decide +kernel) rfl
theorem nI_arr : Cond.arrayClass .int ∈ goodTbl := q_in 140 (by decide +kernel) rfl
def n_slope (x : n_Cx) (h : Nat) (r : Nat → Nat) : va_W := [(h, .inr (5, [.int 0, .int 0, .int 0, .int 0, .int 0, .ref (r 0), .ref (r 1), .ref (r 2), .ref (r 3), .ref (r 4), .ref (r 5), .int 0])), (r 0, n_ar x.cI 30), (r 1, n_ar x.cI 30), (r 2, n_ar x.cI 30), (r 3, n_ar x.cI 3), (r 4, n_ar x.cI 3), (r 5, n_ar x.cI 30)]
def n_held (x : n_Cx) (h : Nat) (r : Nat → Nat) : va_W := (h, .inr (2, [.ref (r 0), .int 0, .int 0, .int 0, .int 0, .ref (r 7), .ref (r 8), .ref (r 9)])) :: (n_slope x (r 0) (fun k => r (k + 1)) ++ [(r 7, n_ar x.cI 4), (r 8, n_ar x.cI 3), (r 9, n_aq x.cII 3 (fun i => [r 10, r 11, r 12].getD i 0)), (r 10, n_ar x.cI 10), (r 11, n_ar x.cI 10), (r 12, n_ar x.cI 10)])
def n_ways (x : n_Cx) (h a : Nat) (r : Nat → Nat) : va_W := [(h, .inr (9, [.ref a, .int 0, .ref (r 0), .ref (r 1), .ref (r 5)])), (r 0, n_ar x.cI 3), (r 1, n_aq x.cII 3 (fun i => [r 2, r 3, r 4].getD i 0)), (r 2, n_ar x.cI 126), (r 3, n_ar x.cI 126), (r 4, n_ar x.cI 126), (r 5, n_aq x.cII 3 (fun i => [r 6, r 7, r 8].getD i 0)), (r 6, n_ar x.cI 126), (r 7, n_ar x.cI 126), (r 8, n_ar x.cI 126)]
def n_study (x : n_Cx) (h a w : Nat) (r : Nat → Nat) : va_W := [(h, .inr (6, [.int 0, .int 0, .ref a, .ref w, .ref (r 0), .ref (r 1), .ref (r 2), .ref (r 3), .ref (r 13)])), (r 0, n_ar x.cI 3), (r 1, n_ar x.cI 9), (r 2, n_ar x.cI 9), (r 3, n_aq x.cII 9 (fun i => [r 4, r 5, r 6, r 7, r 8, r 9, r 10, r 11, r 12].getD i 0)), (r 4, n_ar x.cI 30), (r 5, n_ar x.cI 30), (r 6, n_ar x.cI 30), (r 7, n_ar x.cI 30), (r 8, n_ar x.cI 30), (r 9, n_ar x.cI 30), (r 10, n_ar x.cI 30), (r 11, n_ar x.cI 30), (r 12, n_ar x.cI 30), (r 13, n_aq x.cII 9 (fun i => [r 14, r 15, r 16, r 17, r 18, r 19, r 20, r 21, r 22].getD i 0)), (r 14, n_ar x.cI 30), (r 15, n_ar x.cI 30), (r 16, n_ar x.cI 30), (r 17, n_ar x.cI 30), (r 18, n_ar x.cI 30), (r 19, n_ar x.cI 30), (r 20, n_ar x.cI 30), (r 21, n_ar x.cI 30), (r 22, n_ar x.cI 30)]
def n_finder (x : n_Cx) (h w : Nat) (r : Nat → Nat) : va_W := [(h, .inr (1, [.ref (r 0), .ref w, .ref (r 1), .int 0, .int 0, .int 0])), (r 0, n_ar x.cI 3), (r 1, n_ar x.cI 3)]
def n_model (x : n_Cx) (h : Nat) (r : Nat → Nat) : va_W := [(h, .inr (11, [.ref (r 0), .ref (r 1), .ref (r 2), .ref (r 3), .int 0, .ref (r 4), .int 0, .int 0, .int 0, .ref (r 5), .ref (r 6), .ref (r 7), .ref (r 8), .ref (r 9), .ref (r 10), .ref (r 11), .ref (r 12), .ref (r 13), .ref (r 14), .ref (r 15), .int 0, .int 0, .int 0, .int 0, .int 0, .ref (r 16), .ref (r 17), .int 0])), (r 0, n_ar x.cI 7), (r 1, n_ar x.cI 135), (r 2, n_ar x.cI 135), (r 3, n_ar x.cI 135), (r 4, n_ar x.cI 48), (r 5, n_ar x.cI 3), (r 6, n_ar x.cI 1200), (r 7, n_ar x.cI 1200), (r 8, n_ar x.cI 1200), (r 9, n_ar x.cI 1200), (r 10, n_ar x.cI 3), (r 11, n_ar x.cI 3), (r 12, n_ar x.cI 3), (r 13, n_ar x.cI 3), (r 14, n_ar x.cI 30), (r 15, n_ar x.cI 30), (r 16, n_ar x.cI 135), (r 17, n_ar x.cI 3)]
def n_nc (x : n_Cx) (h : Nat) (r : Nat → Nat) : va_W := (h, .inr (10, [.ref (r 0), .int 0, .ref (r 1), .ref (r 2), .ref (r 9), .ref (r 23), .int 0, .ref (r 37), .ref (r 43), .ref (r 53), .ref (r 63), .ref (r 87), .ref (r 90), .ref (r 93), .int 0, .int (-1), .int (-1)])) :: ([] ++ [(r 0, n_ar x.cI 48)] ++ [(r 1, n_ar x.cI 7)] ++ n_slope x (r 2) (fun k => r (k + 3)) ++ n_held x (r 9) (fun k => r (k + 10)) ++ n_held x (r 23) (fun k => r (k + 24)) ++ ([(r 37, n_aq x.cL 5 (fun i => [r 38, r 39, r 40, r 41, r 42].getD i 0))] ++ [(r 38, .inr (4, []))] ++ [(r 39, .inr (8, []))] ++ [(r 40, .inr (3, []))] ++ [(r 41, .inr (0, []))] ++ [(r 42, .inr (7, []))]) ++ n_ways x (r 43) (r 10) (fun k => r (k + 44)) ++ n_ways x (r 53) (r 10) (fun k => r (k + 54)) ++ n_study x (r 63) (r 10) (r 43) (fun k => r (k + 64)) ++ n_finder x (r 87) (r 43) (fun k => r (k + 88)) ++ n_finder x (r 90) (r 43) (fun k => r (k + 91)) ++ n_finder x (r 93) (r 53) (fun k => r (k + 94)))
theorem n_held_mem (x : n_Cx) (h : Nat) (r : Nat → Nat) : (h, .inr (2, [.ref (r 0), .int 0, .int 0, .int 0, .int 0, .ref (r 7), .ref (r 8), .ref (r 9)])) ∈ n_held x h r := List.mem_cons_self
theorem nD_X3_0 : decode prog_5_method_1_code 0 = .ok (.aload_n 0, 1) := by decide +kernel
theorem nD_X3_1 : decode prog_5_method_1_code 1 = .ok (.invokespecial 1, 3) := by decide +kernel
theorem nD_X3_4 : decode prog_5_method_1_code 4 = .ok (.return_, 1) := by decide +kernel
theorem nO_X3 : Cond.methodLink "NeverCross$Law" 1 Lib.objectInit ∈ goodTbl := q_in 194 (by decide +kernel) rfl
set_option maxHeartbeats 4000000 in
set_option maxRecDepth 100000 in
theorem n_iX3 (l : Launch) (x : n_Cx) (h : Nat) (ev : va_E) : n_Met l x ⟨"NeverCross$Law", "<init>", "()V"⟩ prog_5_method_1_code 1 1 0 0 [.ref h] [(h, ev)] (fun r => [(h, ev)]) := by
  refine n_met (by decide +kernel) rfl (Nat.le_of_ble_eq_true rfl) ?_
  intro p e R s m args below meth c H ls Q Y F hH hS hl r1 r2 r3 r4 kk
  have hl : lv_has ls 1 [(0, .ref h)] := hl
  refine lv_aload_n F.1 F.2.1 nD_X3_0 rfl (lv_at hl 0 rfl) ?_
  refine n_obj F ⟨nO_X3, nI_obji, nI_objc⟩ hl.1 (by omega) nD_X3_1 ?_
  refine W.widen (k := 0) (n := 0) (by omega) (by omega) ?_
  exact kk (fun k => k) _ _ _ _ hH hS nD_X3_4
theorem nD_X5_0 : decode prog_7_method_1_code 0 = .ok (.aload_n 0, 1) := by decide +kernel
theorem nD_X5_1 : decode prog_7_method_1_code 1 = .ok (.invokespecial 1, 3) := by decide +kernel
theorem nD_X5_4 : decode prog_7_method_1_code 4 = .ok (.return_, 1) := by decide +kernel
theorem nM_X3 : Cond.instanceMethod ⟨"NeverCross$Law", "<init>", "()V"⟩ ∈ goodTbl := q_in 192 (by decide +kernel) rfl
theorem nZ_X3 : Cond.initialized "NeverCross$Law" ∈ goodTbl := q_in 59 (by decide +kernel) rfl
theorem nB_X3 : Cond.code ⟨"NeverCross$Law", "<init>", "()V"⟩ prog_5_method_1_code 1 none ∈ goodTbl := q_in 193 (by decide +kernel) rfl
set_option maxHeartbeats 4000000 in
set_option maxRecDepth 100000 in
theorem n_iX5 (l : Launch) (x : n_Cx) (h : Nat) (ev : va_E) : n_Met l x ⟨"NeverCross$Own", "<init>", "()V"⟩ prog_7_method_1_code 1 2 0 0 [.ref h] [(h, ev)] (fun r => [(h, ev)]) := by
  refine n_met (by decide +kernel) rfl (Nat.le_of_ble_eq_true rfl) ?_
  intro p e R s m args below meth c H ls Q Y F hH hS hl r1 r2 r3 r4 kk
  have hl : lv_has ls 1 [(0, .ref h)] := hl
  refine lv_aload_n F.1 F.2.1 nD_X5_0 rfl (lv_at hl 0 rfl) ?_
  refine n_call F (X' := []) (X0 := [(h, ev)]) hH rfl hS (n := 0) (As := []) (rest := []) (n_iX3 l x h ev) ⟨rfl, by decide, by decide, by decide +kernel⟩ ⟨nM_X3, nZ_X3, nB_X3⟩ (Or.inr (F.2.2.2.2.2.2.2.1.1 ("NeverCross$Own", 1, "NeverCross$Law") (by decide))) rfl hl.1 rfl (by omega) (Nat.le_of_ble_eq_true rfl) (by omega) nD_X5_1 (fun u1 H locs hH hS => ?_)
  have hH : n_H x ([(h, ev)]) Y H := hH
  refine W.widen (k := 0) (n := 0) (by omega) (by omega) ?_
  exact kk (fun k => k) _ _ _ _ hH hS nD_X5_4
theorem nD_X0_0 : decode prog_2_method_1_code 0 = .ok (.aload_n 0, 1) := by decide +kernel
theorem nD_X0_1 : decode prog_2_method_1_code 1 = .ok (.invokespecial 1, 3) := by decide +kernel
theorem nD_X0_4 : decode prog_2_method_1_code 4 = .ok (.return_, 1) := by decide +kernel
set_option maxHeartbeats 4000000 in
set_option maxRecDepth 100000 in
theorem n_iX0 (l : Launch) (x : n_Cx) (h : Nat) (ev : va_E) : n_Met l x ⟨"NeverCross$Any", "<init>", "()V"⟩ prog_2_method_1_code 1 2 0 0 [.ref h] [(h, ev)] (fun r => [(h, ev)]) := by
  refine n_met (by decide +kernel) rfl (Nat.le_of_ble_eq_true rfl) ?_
  intro p e R s m args below meth c H ls Q Y F hH hS hl r1 r2 r3 r4 kk
  have hl : lv_has ls 1 [(0, .ref h)] := hl
  refine lv_aload_n F.1 F.2.1 nD_X0_0 rfl (lv_at hl 0 rfl) ?_
  refine n_call F (X' := []) (X0 := [(h, ev)]) hH rfl hS (n := 0) (As := []) (rest := []) (n_iX3 l x h ev) ⟨rfl, by decide, by decide, by decide +kernel⟩ ⟨nM_X3, nZ_X3, nB_X3⟩ (Or.inr (F.2.2.2.2.2.2.2.1.1 ("NeverCross$Any", 1, "NeverCross$Law") (by decide))) rfl hl.1 rfl (by omega) (Nat.le_of_ble_eq_true rfl) (by omega) nD_X0_1 (fun u1 H locs hH hS => ?_)
  have hH : n_H x ([(h, ev)]) Y H := hH
  refine W.widen (k := 0) (n := 0) (by omega) (by omega) ?_
  exact kk (fun k => k) _ _ _ _ hH hS nD_X0_4
theorem nD_X4_0 : decode prog_6_method_1_code 0 = .ok (.aload_n 0, 1) := by decide +kernel
theorem nD_X4_1 : decode prog_6_method_1_code 1 = .ok (.invokespecial 1, 3) := by decide +kernel
theorem nD_X4_4 : decode prog_6_method_1_code 4 = .ok (.return_, 1) := by decide +kernel
theorem nM_X5 : Cond.instanceMethod ⟨"NeverCross$Own", "<init>", "()V"⟩ ∈ goodTbl := q_in 189 (by decide +kernel) rfl
theorem nZ_X5 : Cond.initialized "NeverCross$Own" ∈ goodTbl := q_in 60 (by decide +kernel) rfl
theorem nB_X5 : Cond.code ⟨"NeverCross$Own", "<init>", "()V"⟩ prog_7_method_1_code 1 none ∈ goodTbl := q_in 190 (by decide +kernel) rfl
set_option maxHeartbeats 4000000 in
set_option maxRecDepth 100000 in
theorem n_iX4 (l : Launch) (x : n_Cx) (h : Nat) (ev : va_E) : n_Met l x ⟨"NeverCross$Next", "<init>", "()V"⟩ prog_6_method_1_code 1 3 0 0 [.ref h] [(h, ev)] (fun r => [(h, ev)]) := by
  refine n_met (by decide +kernel) rfl (Nat.le_of_ble_eq_true rfl) ?_
  intro p e R s m args below meth c H ls Q Y F hH hS hl r1 r2 r3 r4 kk
  have hl : lv_has ls 1 [(0, .ref h)] := hl
  refine lv_aload_n F.1 F.2.1 nD_X4_0 rfl (lv_at hl 0 rfl) ?_
  refine n_call F (X' := []) (X0 := [(h, ev)]) hH rfl hS (n := 0) (As := []) (rest := []) (n_iX5 l x h ev) ⟨rfl, by decide, by decide, by decide +kernel⟩ ⟨nM_X5, nZ_X5, nB_X5⟩ (Or.inr (F.2.2.2.2.2.2.2.1.1 ("NeverCross$Next", 1, "NeverCross$Own") (by decide))) rfl hl.1 rfl (by omega) (Nat.le_of_ble_eq_true rfl) (by omega) nD_X4_1 (fun u1 H locs hH hS => ?_)
  have hH : n_H x ([(h, ev)]) Y H := hH
  refine W.widen (k := 0) (n := 0) (by omega) (by omega) ?_
  exact kk (fun k => k) _ _ _ _ hH hS nD_X4_4
theorem nD_X8_0 : decode prog_10_method_1_code 0 = .ok (.aload_n 0, 1) := by decide +kernel
theorem nD_X8_1 : decode prog_10_method_1_code 1 = .ok (.invokespecial 1, 3) := by decide +kernel
theorem nD_X8_4 : decode prog_10_method_1_code 4 = .ok (.return_, 1) := by decide +kernel
set_option maxHeartbeats 4000000 in
set_option maxRecDepth 100000 in
theorem n_iX8 (l : Launch) (x : n_Cx) (h : Nat) (ev : va_E) : n_Met l x ⟨"NeverCross$Told", "<init>", "()V"⟩ prog_10_method_1_code 1 3 0 0 [.ref h] [(h, ev)] (fun r => [(h, ev)]) := by
  refine n_met (by decide +kernel) rfl (Nat.le_of_ble_eq_true rfl) ?_
  intro p e R s m args below meth c H ls Q Y F hH hS hl r1 r2 r3 r4 kk
  have hl : lv_has ls 1 [(0, .ref h)] := hl
  refine lv_aload_n F.1 F.2.1 nD_X8_0 rfl (lv_at hl 0 rfl) ?_
  refine n_call F (X' := []) (X0 := [(h, ev)]) hH rfl hS (n := 0) (As := []) (rest := []) (n_iX5 l x h ev) ⟨rfl, by decide, by decide, by decide +kernel⟩ ⟨nM_X5, nZ_X5, nB_X5⟩ (Or.inr (F.2.2.2.2.2.2.2.1.1 ("NeverCross$Told", 1, "NeverCross$Own") (by decide))) rfl hl.1 rfl (by omega) (Nat.le_of_ble_eq_true rfl) (by omega) nD_X8_1 (fun u1 H locs hH hS => ?_)
  have hH : n_H x ([(h, ev)]) Y H := hH
  refine W.widen (k := 0) (n := 0) (by omega) (by omega) ?_
  exact kk (fun k => k) _ _ _ _ hH hS nD_X8_4
theorem nD_X9_0 : decode prog_11_method_1_code 0 = .ok (.aload_n 0, 1) := by decide +kernel
theorem nD_X9_1 : decode prog_11_method_1_code 1 = .ok (.invokespecial 1, 3) := by decide +kernel
theorem nD_X9_4 : decode prog_11_method_1_code 4 = .ok (.return_, 1) := by decide +kernel
set_option maxHeartbeats 4000000 in
set_option maxRecDepth 100000 in
theorem n_iX9 (l : Launch) (x : n_Cx) (h : Nat) (ev : va_E) : n_Met l x ⟨"NeverCross$Turned", "<init>", "()V"⟩ prog_11_method_1_code 1 3 0 0 [.ref h] [(h, ev)] (fun r => [(h, ev)]) := by
  refine n_met (by decide +kernel) rfl (Nat.le_of_ble_eq_true rfl) ?_
  intro p e R s m args below meth c H ls Q Y F hH hS hl r1 r2 r3 r4 kk
  have hl : lv_has ls 1 [(0, .ref h)] := hl
  refine lv_aload_n F.1 F.2.1 nD_X9_0 rfl (lv_at hl 0 rfl) ?_
  refine n_call F (X' := []) (X0 := [(h, ev)]) hH rfl hS (n := 0) (As := []) (rest := []) (n_iX5 l x h ev) ⟨rfl, by decide, by decide, by decide +kernel⟩ ⟨nM_X5, nZ_X5, nB_X5⟩ (Or.inr (F.2.2.2.2.2.2.2.1.1 ("NeverCross$Turned", 1, "NeverCross$Own") (by decide))) rfl hl.1 rfl (by omega) (Nat.le_of_ble_eq_true rfl) (by omega) nD_X9_1 (fun u1 H locs hH hS => ?_)
  have hH : n_H x ([(h, ev)]) Y H := hH
  refine W.widen (k := 0) (n := 0) (by omega) (by omega) ?_
  exact kk (fun k => k) _ _ _ _ hH hS nD_X9_4
theorem nD_X6_0 : decode prog_8_method_1_code 0 = .ok (.aload_n 0, 1) := by decide +kernel
theorem nD_X6_1 : decode prog_8_method_1_code 1 = .ok (.invokespecial 3, 3) := by decide +kernel
theorem nD_X6_4 : decode prog_8_method_1_code 4 = .ok (.aload_n 0, 1) := by decide +kernel
theorem nD_X6_5 : decode prog_8_method_1_code 5 = .ok (.bipush 30, 2) := by decide +kernel
theorem nD_X6_7 : decode prog_8_method_1_code 7 = .ok (.newarray .int, 2) := by decide +kernel
theorem nD_X6_9 : decode prog_8_method_1_code 9 = .ok (.putfield 9, 3) := by decide +kernel
theorem nD_X6_12 : decode prog_8_method_1_code 12 = .ok (.aload_n 0, 1) := by decide +kernel
theorem nD_X6_13 : decode prog_8_method_1_code 13 = .ok (.bipush 30, 2) := by decide +kernel
theorem nD_X6_15 : decode prog_8_method_1_code 15 = .ok (.newarray .int, 2) := by decide +kernel
theorem nD_X6_17 : decode prog_8_method_1_code 17 = .ok (.putfield 15, 3) := by decide +kernel
theorem nD_X6_20 : decode prog_8_method_1_code 20 = .ok (.aload_n 0, 1) := by decide +kernel
theorem nD_X6_21 : decode prog_8_method_1_code 21 = .ok (.bipush 30, 2) := by decide +kernel
theorem nD_X6_23 : decode prog_8_method_1_code 23 = .ok (.newarray .int, 2) := by decide +kernel
theorem nD_X6_25 : decode prog_8_method_1_code 25 = .ok (.putfield 18, 3) := by decide +kernel
theorem nD_X6_28 : decode prog_8_method_1_code 28 = .ok (.aload_n 0, 1) := by decide +kernel
theorem nD_X6_29 : decode prog_8_method_1_code 29 = .ok (.iconst 3, 1) := by decide +kernel
theorem nD_X6_30 : decode prog_8_method_1_code 30 = .ok (.newarray .int, 2) := by decide +kernel
theorem nD_X6_32 : decode prog_8_method_1_code 32 = .ok (.putfield 21, 3) := by decide +kernel
theorem nD_X6_35 : decode prog_8_method_1_code 35 = .ok (.aload_n 0, 1) := by decide +kernel
theorem nD_X6_36 : decode prog_8_method_1_code 36 = .ok (.iconst 3, 1) := by decide +kernel
theorem nD_X6_37 : decode prog_8_method_1_code 37 = .ok (.newarray .int, 2) := by decide +kernel
theorem nD_X6_39 : decode prog_8_method_1_code 39 = .ok (.putfield 24, 3) := by decide +kernel
theorem nD_X6_42 : decode prog_8_method_1_code 42 = .ok (.aload_n 0, 1) := by decide +kernel
theorem nD_X6_43 : decode prog_8_method_1_code 43 = .ok (.bipush 30, 2) := by decide +kernel
theorem nD_X6_45 : decode prog_8_method_1_code 45 = .ok (.newarray .int, 2) := by decide +kernel
theorem nD_X6_47 : decode prog_8_method_1_code 47 = .ok (.putfield 27, 3) := by decide +kernel
theorem nD_X6_50 : decode prog_8_method_1_code 50 = .ok (.return_, 1) := by decide +kernel
theorem nO_X6 : Cond.methodLink "NeverCross$Slope" 3 Lib.objectInit ∈ goodTbl := q_in 86 (by decide +kernel) rfl
theorem nF_X6_9 : Cond.fieldLink "NeverCross$Slope" 9 "NeverCross$Slope" "kind" "[I" ∈ goodTbl := q_in 102 (by decide +kernel) rfl
theorem nF_X6_15 : Cond.fieldLink "NeverCross$Slope" 15 "NeverCross$Slope" "cost" "[I" ∈ goodTbl := q_in 105 (by decide +kernel) rfl
theorem nF_X6_18 : Cond.fieldLink "NeverCross$Slope" 18 "NeverCross$Slope" "number" "[I" ∈ goodTbl := q_in 108 (by decide +kernel) rfl
theorem nF_X6_21 : Cond.fieldLink "NeverCross$Slope" 21 "NeverCross$Slope" "doorAt" "[I" ∈ goodTbl := q_in 111 (by decide +kernel) rfl
theorem nF_X6_24 : Cond.fieldLink "NeverCross$Slope" 24 "NeverCross$Slope" "wellAt" "[I" ∈ goodTbl := q_in 112 (by decide +kernel) rfl
theorem nF_X6_27 : Cond.fieldLink "NeverCross$Slope" 27 "NeverCross$Slope" "reached" "[I" ∈ goodTbl := q_in 113 (by decide +kernel) rfl
set_option maxHeartbeats 4000000 in
set_option maxRecDepth 100000 in
theorem n_iX6 (l : Launch) (x : n_Cx) (h : Nat) : n_Met l x ⟨"NeverCross$Slope", "<init>", "()V"⟩ prog_8_method_1_code 1 1 6 126 [.ref h] [(h, .inr (5, [.int 0, .int 0, .int 0, .int 0, .int 0, .null, .null, .null, .null, .null, .null, .int 0]))] (fun r => n_slope x h r) := by
  refine n_met (by decide +kernel) rfl (Nat.le_of_ble_eq_true rfl) ?_
  intro p e R s m args below meth c H ls Q Y F hH hS hl r1 r2 r3 r4 kk
  have hl : lv_has ls 1 [(0, .ref h)] := hl
  refine lv_aload_n F.1 F.2.1 nD_X6_0 rfl (lv_at hl 0 rfl) ?_
  refine n_obj F ⟨nO_X6, nI_obji, nI_objc⟩ hl.1 (by omega) nD_X6_1 ?_
  refine lv_aload_n F.1 F.2.1 nD_X6_4 rfl (lv_at hl 0 rfl) ?_
  refine lv_bipush (v := 30) F.1 F.2.1 nD_X6_5 (by decide) ?_
  refine n_newI F hH hS (N := 30) (by decide) (by decide) (by decide) nI_arr (by omega) (by omega) nD_X6_7 (fun q1 H hH hS => ?_)
  have hH : n_H x ((h, .inr (5, [.int 0, .int 0, .int 0, .int 0, .int 0, .null, .null, .null, .null, .null, .null, .int 0])) :: ([] ++ [(q1, n_ar x.cI 30)])) Y H := hH
  refine n_putF F hH hS (C := RX6) (T := TX6) (N := 12) (ci := 5) (v := .ref (q1)) 5 tyX6 ⟨rfl, ingX6, by decide, rfl, rfl, nF_X6_9, tyX6_ok, nmX6⟩ rfl rfl rfl (Nat.le_of_ble_eq_true rfl) nD_X6_9 (fun H locs hH hS => ?_)
  have hH : n_H x ((h, .inr (5, [.int 0, .int 0, .int 0, .int 0, .int 0, .ref (q1), .null, .null, .null, .null, .null, .int 0])) :: ([] ++ [(q1, n_ar x.cI 30)])) Y H := hH
  refine lv_aload_n F.1 F.2.1 nD_X6_12 rfl (lv_at hl 0 rfl) ?_
  refine lv_bipush (v := 30) F.1 F.2.1 nD_X6_13 (by decide) ?_
  refine n_newI F hH hS (N := 30) (by decide) (by decide) (by decide) nI_arr (by omega) (by omega) nD_X6_15 (fun q2 H hH hS => ?_)
  have hH : n_H x ((h, .inr (5, [.int 0, .int 0, .int 0, .int 0, .int 0, .ref (q1), .null, .null, .null, .null, .null, .int 0])) :: ([] ++ [(q1, n_ar x.cI 30)] ++ [(q2, n_ar x.cI 30)])) Y H := hH
  refine n_putF F hH hS (C := RX6) (T := TX6) (N := 12) (ci := 5) (v := .ref (q2)) 6 tyX6 ⟨rfl, ingX6, by decide, rfl, rfl, nF_X6_15, tyX6_ok, nmX6⟩ rfl rfl rfl (Nat.le_of_ble_eq_true rfl) nD_X6_17 (fun H locs hH hS => ?_)
  have hH : n_H x ((h, .inr (5, [.int 0, .int 0, .int 0, .int 0, .int 0, .ref (q1), .ref (q2), .null, .null, .null, .null, .int 0])) :: ([] ++ [(q1, n_ar x.cI 30)] ++ [(q2, n_ar x.cI 30)])) Y H := hH
  refine lv_aload_n F.1 F.2.1 nD_X6_20 rfl (lv_at hl 0 rfl) ?_
  refine lv_bipush (v := 30) F.1 F.2.1 nD_X6_21 (by decide) ?_
  refine n_newI F hH hS (N := 30) (by decide) (by decide) (by decide) nI_arr (by omega) (by omega) nD_X6_23 (fun q3 H hH hS => ?_)
  have hH : n_H x ((h, .inr (5, [.int 0, .int 0, .int 0, .int 0, .int 0, .ref (q1), .ref (q2), .null, .null, .null, .null, .int 0])) :: ([] ++ [(q1, n_ar x.cI 30)] ++ [(q2, n_ar x.cI 30)] ++ [(q3, n_ar x.cI 30)])) Y H := hH
  refine n_putF F hH hS (C := RX6) (T := TX6) (N := 12) (ci := 5) (v := .ref (q3)) 7 tyX6 ⟨rfl, ingX6, by decide, rfl, rfl, nF_X6_18, tyX6_ok, nmX6⟩ rfl rfl rfl (Nat.le_of_ble_eq_true rfl) nD_X6_25 (fun H locs hH hS => ?_)
  have hH : n_H x ((h, .inr (5, [.int 0, .int 0, .int 0, .int 0, .int 0, .ref (q1), .ref (q2), .ref (q3), .null, .null, .null, .int 0])) :: ([] ++ [(q1, n_ar x.cI 30)] ++ [(q2, n_ar x.cI 30)] ++ [(q3, n_ar x.cI 30)])) Y H := hH
  refine lv_aload_n F.1 F.2.1 nD_X6_28 rfl (lv_at hl 0 rfl) ?_
  refine lv_iconst (v := 3) F.1 F.2.1 nD_X6_29 (by decide) ?_
  refine n_newI F hH hS (N := 3) (by decide) (by decide) (by decide) nI_arr (by omega) (by omega) nD_X6_30 (fun q4 H hH hS => ?_)
  have hH : n_H x ((h, .inr (5, [.int 0, .int 0, .int 0, .int 0, .int 0, .ref (q1), .ref (q2), .ref (q3), .null, .null, .null, .int 0])) :: ([] ++ [(q1, n_ar x.cI 30)] ++ [(q2, n_ar x.cI 30)] ++ [(q3, n_ar x.cI 30)] ++ [(q4, n_ar x.cI 3)])) Y H := hH
  refine n_putF F hH hS (C := RX6) (T := TX6) (N := 12) (ci := 5) (v := .ref (q4)) 8 tyX6 ⟨rfl, ingX6, by decide, rfl, rfl, nF_X6_21, tyX6_ok, nmX6⟩ rfl rfl rfl (Nat.le_of_ble_eq_true rfl) nD_X6_32 (fun H locs hH hS => ?_)
  have hH : n_H x ((h, .inr (5, [.int 0, .int 0, .int 0, .int 0, .int 0, .ref (q1), .ref (q2), .ref (q3), .ref (q4), .null, .null, .int 0])) :: ([] ++ [(q1, n_ar x.cI 30)] ++ [(q2, n_ar x.cI 30)] ++ [(q3, n_ar x.cI 30)] ++ [(q4, n_ar x.cI 3)])) Y H := hH
  refine lv_aload_n F.1 F.2.1 nD_X6_35 rfl (lv_at hl 0 rfl) ?_
  refine lv_iconst (v := 3) F.1 F.2.1 nD_X6_36 (by decide) ?_
  refine n_newI F hH hS (N := 3) (by decide) (by decide) (by decide) nI_arr (by omega) (by omega) nD_X6_37 (fun q5 H hH hS => ?_)
  have hH : n_H x ((h, .inr (5, [.int 0, .int 0, .int 0, .int 0, .int 0, .ref (q1), .ref (q2), .ref (q3), .ref (q4), .null, .null, .int 0])) :: ([] ++ [(q1, n_ar x.cI 30)] ++ [(q2, n_ar x.cI 30)] ++ [(q3, n_ar x.cI 30)] ++ [(q4, n_ar x.cI 3)] ++ [(q5, n_ar x.cI 3)])) Y H := hH
  refine n_putF F hH hS (C := RX6) (T := TX6) (N := 12) (ci := 5) (v := .ref (q5)) 9 tyX6 ⟨rfl, ingX6, by decide, rfl, rfl, nF_X6_24, tyX6_ok, nmX6⟩ rfl rfl rfl (Nat.le_of_ble_eq_true rfl) nD_X6_39 (fun H locs hH hS => ?_)
  have hH : n_H x ((h, .inr (5, [.int 0, .int 0, .int 0, .int 0, .int 0, .ref (q1), .ref (q2), .ref (q3), .ref (q4), .ref (q5), .null, .int 0])) :: ([] ++ [(q1, n_ar x.cI 30)] ++ [(q2, n_ar x.cI 30)] ++ [(q3, n_ar x.cI 30)] ++ [(q4, n_ar x.cI 3)] ++ [(q5, n_ar x.cI 3)])) Y H := hH
  refine lv_aload_n F.1 F.2.1 nD_X6_42 rfl (lv_at hl 0 rfl) ?_
  refine lv_bipush (v := 30) F.1 F.2.1 nD_X6_43 (by decide) ?_
  refine n_newI F hH hS (N := 30) (by decide) (by decide) (by decide) nI_arr (by omega) (by omega) nD_X6_45 (fun q6 H hH hS => ?_)
  have hH : n_H x ((h, .inr (5, [.int 0, .int 0, .int 0, .int 0, .int 0, .ref (q1), .ref (q2), .ref (q3), .ref (q4), .ref (q5), .null, .int 0])) :: ([] ++ [(q1, n_ar x.cI 30)] ++ [(q2, n_ar x.cI 30)] ++ [(q3, n_ar x.cI 30)] ++ [(q4, n_ar x.cI 3)] ++ [(q5, n_ar x.cI 3)] ++ [(q6, n_ar x.cI 30)])) Y H := hH
  refine n_putF F hH hS (C := RX6) (T := TX6) (N := 12) (ci := 5) (v := .ref (q6)) 10 tyX6 ⟨rfl, ingX6, by decide, rfl, rfl, nF_X6_27, tyX6_ok, nmX6⟩ rfl rfl rfl (Nat.le_of_ble_eq_true rfl) nD_X6_47 (fun H locs hH hS => ?_)
  have hH : n_H x ((h, .inr (5, [.int 0, .int 0, .int 0, .int 0, .int 0, .ref (q1), .ref (q2), .ref (q3), .ref (q4), .ref (q5), .ref (q6), .int 0])) :: ([] ++ [(q1, n_ar x.cI 30)] ++ [(q2, n_ar x.cI 30)] ++ [(q3, n_ar x.cI 30)] ++ [(q4, n_ar x.cI 3)] ++ [(q5, n_ar x.cI 3)] ++ [(q6, n_ar x.cI 30)])) Y H := hH
  refine W.widen (k := 6) (n := 126) (by omega) (by omega) ?_
  exact kk (fun k => [q1, q2, q3, q4, q5, q6].getD k 0) _ _ _ _ hH hS nD_X6_50
theorem nD_X2_0 : decode prog_4_method_1_code 0 = .ok (.aload_n 0, 1) := by decide +kernel
theorem nD_X2_1 : decode prog_4_method_1_code 1 = .ok (.invokespecial 3, 3) := by decide +kernel
theorem nD_X2_4 : decode prog_4_method_1_code 4 = .ok (.aload_n 0, 1) := by decide +kernel
theorem nD_X2_5 : decode prog_4_method_1_code 5 = .ok (.new 9, 3) := by decide +kernel
theorem nD_X2_8 : decode prog_4_method_1_code 8 = .ok (.dup, 1) := by decide +kernel
theorem nD_X2_9 : decode prog_4_method_1_code 9 = .ok (.invokespecial 11, 3) := by decide +kernel
theorem nD_X2_12 : decode prog_4_method_1_code 12 = .ok (.putfield 12, 3) := by decide +kernel
theorem nD_X2_15 : decode prog_4_method_1_code 15 = .ok (.aload_n 0, 1) := by decide +kernel
theorem nD_X2_16 : decode prog_4_method_1_code 16 = .ok (.iconst 0, 1) := by decide +kernel
theorem nD_X2_17 : decode prog_4_method_1_code 17 = .ok (.putfield 18, 3) := by decide +kernel
theorem nD_X2_20 : decode prog_4_method_1_code 20 = .ok (.aload_n 0, 1) := by decide +kernel
theorem nD_X2_21 : decode prog_4_method_1_code 21 = .ok (.iconst 4, 1) := by decide +kernel
theorem nD_X2_22 : decode prog_4_method_1_code 22 = .ok (.newarray .int, 2) := by decide +kernel
theorem nD_X2_24 : decode prog_4_method_1_code 24 = .ok (.putfield 22, 3) := by decide +kernel
theorem nD_X2_27 : decode prog_4_method_1_code 27 = .ok (.aload_n 0, 1) := by decide +kernel
theorem nD_X2_28 : decode prog_4_method_1_code 28 = .ok (.iconst 3, 1) := by decide +kernel
theorem nD_X2_29 : decode prog_4_method_1_code 29 = .ok (.newarray .int, 2) := by decide +kernel
theorem nD_X2_31 : decode prog_4_method_1_code 31 = .ok (.putfield 26, 3) := by decide +kernel
theorem nD_X2_34 : decode prog_4_method_1_code 34 = .ok (.aload_n 0, 1) := by decide +kernel
theorem nD_X2_35 : decode prog_4_method_1_code 35 = .ok (.iconst 3, 1) := by decide +kernel
theorem nD_X2_36 : decode prog_4_method_1_code 36 = .ok (.bipush 10, 2) := by decide +kernel
theorem nD_X2_38 : decode prog_4_method_1_code 38 = .ok (.multianewarray 29 2, 4) := by decide +kernel
theorem nD_X2_42 : decode prog_4_method_1_code 42 = .ok (.putfield 31, 3) := by decide +kernel
theorem nD_X2_45 : decode prog_4_method_1_code 45 = .ok (.return_, 1) := by decide +kernel
theorem nO_X2 : Cond.methodLink "NeverCross$Held" 3 Lib.objectInit ∈ goodTbl := q_in 146 (by decide +kernel) rfl
theorem nC_X2_9 : Cond.classLink "NeverCross$Held" 9 "NeverCross$Slope" ∈ goodTbl := q_in 147 (by decide +kernel) rfl
theorem nN_X6 : Cond.instantiable "NeverCross$Slope" 12 ∈ goodTbl := q_in 82 (by decide +kernel) rfl
theorem nZ_X6 : Cond.initialized "NeverCross$Slope" ∈ goodTbl := q_in 57 (by decide +kernel) rfl
theorem nM_X6 : Cond.instanceMethod ⟨"NeverCross$Slope", "<init>", "()V"⟩ ∈ goodTbl := q_in 84 (by decide +kernel) rfl
theorem nB_X6 : Cond.code ⟨"NeverCross$Slope", "<init>", "()V"⟩ prog_8_method_1_code 1 none ∈ goodTbl := q_in 85 (by decide +kernel) rfl
theorem nF_X2_12 : Cond.fieldLink "NeverCross$Held" 12 "NeverCross$Held" "slope" "LNeverCross$Slope;" ∈ goodTbl := q_in 151 (by decide +kernel) rfl
theorem nF_X2_18 : Cond.fieldLink "NeverCross$Held" 18 "NeverCross$Held" "law" "I" ∈ goodTbl := q_in 155 (by decide +kernel) rfl
theorem nF_X2_22 : Cond.fieldLink "NeverCross$Held" 22 "NeverCross$Held" "seen" "[I" ∈ goodTbl := q_in 161 (by decide +kernel) rfl
theorem nF_X2_26 : Cond.fieldLink "NeverCross$Held" 26 "NeverCross$Held" "lengths" "[I" ∈ goodTbl := q_in 163 (by decide +kernel) rfl
theorem nC_X2_29 : Cond.classLink "NeverCross$Held" 29 "[[I" ∈ goodTbl := q_in 149 (by decide +kernel) rfl
theorem nF_X2_31 : Cond.fieldLink "NeverCross$Held" 31 "NeverCross$Held" "steps" "[[I" ∈ goodTbl := q_in 165 (by decide +kernel) rfl
set_option maxHeartbeats 4000000 in
set_option maxRecDepth 100000 in
theorem n_iX2 (l : Launch) (x : n_Cx) (h : Nat) : n_Met l x ⟨"NeverCross$Held", "<init>", "()V"⟩ prog_4_method_1_code 1 2 13 178 [.ref h] [(h, .inr (2, [.null, .int 0, .int 0, .int 0, .int 0, .null, .null, .null]))] (fun r => n_held x h r) := by
  refine n_met (by decide +kernel) rfl (Nat.le_of_ble_eq_true rfl) ?_
  intro p e R s m args below meth c H ls Q Y F hH hS hl r1 r2 r3 r4 kk
  have hl : lv_has ls 1 [(0, .ref h)] := hl
  refine lv_aload_n F.1 F.2.1 nD_X2_0 rfl (lv_at hl 0 rfl) ?_
  refine n_obj F ⟨nO_X2, nI_obji, nI_objc⟩ hl.1 (by omega) nD_X2_1 ?_
  refine lv_aload_n F.1 F.2.1 nD_X2_4 rfl (lv_at hl 0 rfl) ?_
  refine n_newO F hH hS (C := RX6) (T := TX6) (N := 12) 5 ingX6 tyX6 tyX6_ok ⟨nC_X2_9, nN_X6, nZ_X6⟩ rfl (fs := [.int 0, .int 0, .int 0, .int 0, .int 0, .null, .null, .null, .null, .null, .null, .int 0]) (fun j hj => by rcases (show j = 0 ∨ j = 1 ∨ j = 2 ∨ j = 3 ∨ j = 4 ∨ j = 5 ∨ j = 6 ∨ j = 7 ∨ j = 8 ∨ j = 9 ∨ j = 10 ∨ j = 11 by omega) with rfl | rfl | rfl | rfl | rfl | rfl | rfl | rfl | rfl | rfl | rfl | rfl <;> rfl) (by omega) (by omega) nD_X2_5 (fun q1 H hH hS => ?_)
  have hH : n_H x (((h, .inr (2, [.null, .int 0, .int 0, .int 0, .int 0, .null, .null, .null])) :: ([])) ++ [(q1, .inr (5, [.int 0, .int 0, .int 0, .int 0, .int 0, .null, .null, .null, .null, .null, .null, .int 0]))]) Y H := hH
  refine lv_dup F.1 F.2.1 nD_X2_8 rfl ?_
  refine n_call F (X' := (h, .inr (2, [.null, .int 0, .int 0, .int 0, .int 0, .null, .null, .null])) :: ([])) (X0 := [(q1, .inr (5, [.int 0, .int 0, .int 0, .int 0, .int 0, .null, .null, .null, .null, .null, .null, .int 0]))]) hH rfl hS (n := 0) (As := []) (rest := [.ref q1, .ref h]) (n_iX6 l x q1) ⟨rfl, by decide, by decide, by decide +kernel⟩ ⟨nM_X6, nZ_X6, nB_X6⟩ (Or.inr (F.2.2.2.2.2.2.2.1.1 ("NeverCross$Held", 11, "NeverCross$Slope") (by decide))) rfl hl.1 rfl (by omega) (Nat.le_of_ble_eq_true rfl) (by omega) nD_X2_9 (fun u2 H locs hH hS => ?_)
  have hH : n_H x ((h, .inr (2, [.null, .int 0, .int 0, .int 0, .int 0, .null, .null, .null])) :: ([] ++ n_slope x q1 u2)) Y H := hH
  refine n_putF F hH hS (C := RX2) (T := TX2) (N := 8) (ci := 2) (v := .ref (q1)) 0 tyX2 ⟨rfl, ingX2, by decide, rfl, rfl, nF_X2_12, tyX2_ok, nmX2⟩ rfl rfl rfl (Nat.le_of_ble_eq_true rfl) nD_X2_12 (fun H locs hH hS => ?_)
  have hH : n_H x ((h, .inr (2, [.ref (q1), .int 0, .int 0, .int 0, .int 0, .null, .null, .null])) :: ([] ++ n_slope x q1 u2)) Y H := hH
  refine lv_aload_n F.1 F.2.1 nD_X2_15 rfl (lv_at hl 0 rfl) ?_
  refine lv_iconst (v := 0) F.1 F.2.1 nD_X2_16 (by decide) ?_
  refine n_putF F hH hS (C := RX2) (T := TX2) (N := 8) (ci := 2) (v := .int 0) 2 tyX2 ⟨rfl, ingX2, by decide, rfl, rfl, nF_X2_18, tyX2_ok, nmX2⟩ rfl rfl rfl (Nat.le_of_ble_eq_true rfl) nD_X2_17 (fun H locs hH hS => ?_)
  have hH : n_H x ((h, .inr (2, [.ref (q1), .int 0, .int 0, .int 0, .int 0, .null, .null, .null])) :: ([] ++ n_slope x q1 u2)) Y H := hH
  refine lv_aload_n F.1 F.2.1 nD_X2_20 rfl (lv_at hl 0 rfl) ?_
  refine lv_iconst (v := 4) F.1 F.2.1 nD_X2_21 (by decide) ?_
  refine n_newI F hH hS (N := 4) (by decide) (by decide) (by decide) nI_arr (by omega) (by omega) nD_X2_22 (fun q3 H hH hS => ?_)
  have hH : n_H x ((h, .inr (2, [.ref (q1), .int 0, .int 0, .int 0, .int 0, .null, .null, .null])) :: ([] ++ n_slope x q1 u2 ++ [(q3, n_ar x.cI 4)])) Y H := hH
  refine n_putF F hH hS (C := RX2) (T := TX2) (N := 8) (ci := 2) (v := .ref (q3)) 5 tyX2 ⟨rfl, ingX2, by decide, rfl, rfl, nF_X2_22, tyX2_ok, nmX2⟩ rfl rfl rfl (Nat.le_of_ble_eq_true rfl) nD_X2_24 (fun H locs hH hS => ?_)
  have hH : n_H x ((h, .inr (2, [.ref (q1), .int 0, .int 0, .int 0, .int 0, .ref (q3), .null, .null])) :: ([] ++ n_slope x q1 u2 ++ [(q3, n_ar x.cI 4)])) Y H := hH
  refine lv_aload_n F.1 F.2.1 nD_X2_27 rfl (lv_at hl 0 rfl) ?_
  refine lv_iconst (v := 3) F.1 F.2.1 nD_X2_28 (by decide) ?_
  refine n_newI F hH hS (N := 3) (by decide) (by decide) (by decide) nI_arr (by omega) (by omega) nD_X2_29 (fun q4 H hH hS => ?_)
  have hH : n_H x ((h, .inr (2, [.ref (q1), .int 0, .int 0, .int 0, .int 0, .ref (q3), .null, .null])) :: ([] ++ n_slope x q1 u2 ++ [(q3, n_ar x.cI 4)] ++ [(q4, n_ar x.cI 3)])) Y H := hH
  refine n_putF F hH hS (C := RX2) (T := TX2) (N := 8) (ci := 2) (v := .ref (q4)) 6 tyX2 ⟨rfl, ingX2, by decide, rfl, rfl, nF_X2_26, tyX2_ok, nmX2⟩ rfl rfl rfl (Nat.le_of_ble_eq_true rfl) nD_X2_31 (fun H locs hH hS => ?_)
  have hH : n_H x ((h, .inr (2, [.ref (q1), .int 0, .int 0, .int 0, .int 0, .ref (q3), .ref (q4), .null])) :: ([] ++ n_slope x q1 u2 ++ [(q3, n_ar x.cI 4)] ++ [(q4, n_ar x.cI 3)])) Y H := hH
  refine lv_aload_n F.1 F.2.1 nD_X2_34 rfl (lv_at hl 0 rfl) ?_
  refine lv_iconst (v := 3) F.1 F.2.1 nD_X2_35 (by decide) ?_
  refine lv_bipush (v := 10) F.1 F.2.1 nD_X2_36 (by decide) ?_
  refine n_mna F hH hS (N := 3) (K := 10) (by decide) (by decide) (by decide) (by decide) (by decide) ⟨nC_X2_29, nI_arr⟩ (by omega) (by omega) nD_X2_38 (fun q5 L H hL hH hS => ?_)
  obtain ⟨q6, q7, q8, rfl⟩ : ∃ z0 z1 z2 : Nat, L = [z0, z1, z2] := by
    match L, hL with
    | [z0, z1, z2], _ => exact ⟨z0, z1, z2, rfl⟩
  have hH : n_H x ((h, .inr (2, [.ref (q1), .int 0, .int 0, .int 0, .int 0, .ref (q3), .ref (q4), .null])) :: ([] ++ n_slope x q1 u2 ++ [(q3, n_ar x.cI 4)] ++ [(q4, n_ar x.cI 3)] ++ [(q5, n_aq x.cII 3 (fun i => [q6, q7, q8].getD i 0)), (q6, n_ar x.cI 10), (q7, n_ar x.cI 10), (q8, n_ar x.cI 10)])) Y H := hH
  refine n_putF F hH hS (C := RX2) (T := TX2) (N := 8) (ci := 2) (v := .ref (q5)) 7 tyX2 ⟨rfl, ingX2, by decide, rfl, rfl, nF_X2_31, tyX2_ok, nmX2⟩ rfl rfl rfl (Nat.le_of_ble_eq_true rfl) nD_X2_42 (fun H locs hH hS => ?_)
  have hH : n_H x ((h, .inr (2, [.ref (q1), .int 0, .int 0, .int 0, .int 0, .ref (q3), .ref (q4), .ref (q5)])) :: ([] ++ n_slope x q1 u2 ++ [(q3, n_ar x.cI 4)] ++ [(q4, n_ar x.cI 3)] ++ [(q5, n_aq x.cII 3 (fun i => [q6, q7, q8].getD i 0)), (q6, n_ar x.cI 10), (q7, n_ar x.cI 10), (q8, n_ar x.cI 10)])) Y H := hH
  refine W.widen (k := 13) (n := 178) (by omega) (by omega) ?_
  exact kk (fun k => [q1, u2 0, u2 1, u2 2, u2 3, u2 4, u2 5, q3, q4, q5, q6, q7, q8].getD k 0) _ _ _ _ hH hS nD_X2_45
theorem nD_X10_0 : decode prog_12_method_1_code 0 = .ok (.aload_n 0, 1) := by decide +kernel
theorem nD_X10_1 : decode prog_12_method_1_code 1 = .ok (.invokespecial 3, 3) := by decide +kernel
theorem nD_X10_4 : decode prog_12_method_1_code 4 = .ok (.aload_n 0, 1) := by decide +kernel
theorem nD_X10_5 : decode prog_12_method_1_code 5 = .ok (.iconst 3, 1) := by decide +kernel
theorem nD_X10_6 : decode prog_12_method_1_code 6 = .ok (.newarray .int, 2) := by decide +kernel
theorem nD_X10_8 : decode prog_12_method_1_code 8 = .ok (.putfield 9, 3) := by decide +kernel
theorem nD_X10_11 : decode prog_12_method_1_code 11 = .ok (.aload_n 0, 1) := by decide +kernel
theorem nD_X10_12 : decode prog_12_method_1_code 12 = .ok (.iconst 3, 1) := by decide +kernel
theorem nD_X10_13 : decode prog_12_method_1_code 13 = .ok (.bipush 126, 2) := by decide +kernel
theorem nD_X10_15 : decode prog_12_method_1_code 15 = .ok (.multianewarray 15 2, 4) := by decide +kernel
theorem nD_X10_19 : decode prog_12_method_1_code 19 = .ok (.putfield 17, 3) := by decide +kernel
theorem nD_X10_22 : decode prog_12_method_1_code 22 = .ok (.aload_n 0, 1) := by decide +kernel
theorem nD_X10_23 : decode prog_12_method_1_code 23 = .ok (.iconst 3, 1) := by decide +kernel
theorem nD_X10_24 : decode prog_12_method_1_code 24 = .ok (.bipush 126, 2) := by decide +kernel
theorem nD_X10_26 : decode prog_12_method_1_code 26 = .ok (.multianewarray 15 2, 4) := by decide +kernel
theorem nD_X10_30 : decode prog_12_method_1_code 30 = .ok (.putfield 20, 3) := by decide +kernel
theorem nD_X10_33 : decode prog_12_method_1_code 33 = .ok (.aload_n 0, 1) := by decide +kernel
theorem nD_X10_34 : decode prog_12_method_1_code 34 = .ok (.aload_n 1, 1) := by decide +kernel
theorem nD_X10_35 : decode prog_12_method_1_code 35 = .ok (.putfield 23, 3) := by decide +kernel
theorem nD_X10_38 : decode prog_12_method_1_code 38 = .ok (.return_, 1) := by decide +kernel
theorem nO_X10 : Cond.methodLink "NeverCross$Ways" 3 Lib.objectInit ∈ goodTbl := q_in 229 (by decide +kernel) rfl
theorem nF_X10_9 : Cond.fieldLink "NeverCross$Ways" 9 "NeverCross$Ways" "sizes" "[I" ∈ goodTbl := q_in 235 (by decide +kernel) rfl
theorem nC_X10_15 : Cond.classLink "NeverCross$Ways" 15 "[[I" ∈ goodTbl := q_in 230 (by decide +kernel) rfl
theorem nF_X10_17 : Cond.fieldLink "NeverCross$Ways" 17 "NeverCross$Ways" "cells" "[[I" ∈ goodTbl := q_in 238 (by decide +kernel) rfl
theorem nF_X10_20 : Cond.fieldLink "NeverCross$Ways" 20 "NeverCross$Ways" "wells" "[[I" ∈ goodTbl := q_in 241 (by decide +kernel) rfl
theorem nF_X10_23 : Cond.fieldLink "NeverCross$Ways" 23 "NeverCross$Ways" "slope" "LNeverCross$Slope;" ∈ goodTbl := q_in 231 (by decide +kernel) rfl
set_option maxHeartbeats 4000000 in
set_option maxRecDepth 100000 in
theorem n_iX10 (l : Launch) (x : n_Cx) (h a : Nat) : n_Met l x ⟨"NeverCross$Ways", "<init>", "(LNeverCross$Slope;)V"⟩ prog_12_method_1_code 2 1 9 765 [.ref h, .ref a] [(h, .inr (9, [.null, .int 0, .null, .null, .null]))] (fun r => n_ways x h a r) := by
  refine n_met (by decide +kernel) rfl (Nat.le_of_ble_eq_true rfl) ?_
  intro p e R s m args below meth c H ls Q Y F hH hS hl r1 r2 r3 r4 kk
  have hl : lv_has ls 2 [(0, .ref h), (1, .ref a)] := hl
  refine lv_aload_n F.1 F.2.1 nD_X10_0 rfl (lv_at hl 0 rfl) ?_
  refine n_obj F ⟨nO_X10, nI_obji, nI_objc⟩ hl.1 (by omega) nD_X10_1 ?_
  refine lv_aload_n F.1 F.2.1 nD_X10_4 rfl (lv_at hl 0 rfl) ?_
  refine lv_iconst (v := 3) F.1 F.2.1 nD_X10_5 (by decide) ?_
  refine n_newI F hH hS (N := 3) (by decide) (by decide) (by decide) nI_arr (by omega) (by omega) nD_X10_6 (fun q1 H hH hS => ?_)
  have hH : n_H x ((h, .inr (9, [.null, .int 0, .null, .null, .null])) :: ([] ++ [(q1, n_ar x.cI 3)])) Y H := hH
  refine n_putF F hH hS (C := RX10) (T := TX10) (N := 5) (ci := 9) (v := .ref (q1)) 2 tyX10 ⟨rfl, ingX10, by decide, rfl, rfl, nF_X10_9, tyX10_ok, nmX10⟩ rfl rfl rfl (Nat.le_of_ble_eq_true rfl) nD_X10_8 (fun H locs hH hS => ?_)
  have hH : n_H x ((h, .inr (9, [.null, .int 0, .ref (q1), .null, .null])) :: ([] ++ [(q1, n_ar x.cI 3)])) Y H := hH
  refine lv_aload_n F.1 F.2.1 nD_X10_11 rfl (lv_at hl 0 rfl) ?_
  refine lv_iconst (v := 3) F.1 F.2.1 nD_X10_12 (by decide) ?_
  refine lv_bipush (v := 126) F.1 F.2.1 nD_X10_13 (by decide) ?_
  refine n_mna F hH hS (N := 3) (K := 126) (by decide) (by decide) (by decide) (by decide) (by decide) ⟨nC_X10_15, nI_arr⟩ (by omega) (by omega) nD_X10_15 (fun q2 L H hL hH hS => ?_)
  obtain ⟨q3, q4, q5, rfl⟩ : ∃ z0 z1 z2 : Nat, L = [z0, z1, z2] := by
    match L, hL with
    | [z0, z1, z2], _ => exact ⟨z0, z1, z2, rfl⟩
  have hH : n_H x ((h, .inr (9, [.null, .int 0, .ref (q1), .null, .null])) :: ([] ++ [(q1, n_ar x.cI 3)] ++ [(q2, n_aq x.cII 3 (fun i => [q3, q4, q5].getD i 0)), (q3, n_ar x.cI 126), (q4, n_ar x.cI 126), (q5, n_ar x.cI 126)])) Y H := hH
  refine n_putF F hH hS (C := RX10) (T := TX10) (N := 5) (ci := 9) (v := .ref (q2)) 3 tyX10 ⟨rfl, ingX10, by decide, rfl, rfl, nF_X10_17, tyX10_ok, nmX10⟩ rfl rfl rfl (Nat.le_of_ble_eq_true rfl) nD_X10_19 (fun H locs hH hS => ?_)
  have hH : n_H x ((h, .inr (9, [.null, .int 0, .ref (q1), .ref (q2), .null])) :: ([] ++ [(q1, n_ar x.cI 3)] ++ [(q2, n_aq x.cII 3 (fun i => [q3, q4, q5].getD i 0)), (q3, n_ar x.cI 126), (q4, n_ar x.cI 126), (q5, n_ar x.cI 126)])) Y H := hH
  refine lv_aload_n F.1 F.2.1 nD_X10_22 rfl (lv_at hl 0 rfl) ?_
  refine lv_iconst (v := 3) F.1 F.2.1 nD_X10_23 (by decide) ?_
  refine lv_bipush (v := 126) F.1 F.2.1 nD_X10_24 (by decide) ?_
  refine n_mna F hH hS (N := 3) (K := 126) (by decide) (by decide) (by decide) (by decide) (by decide) ⟨nC_X10_15, nI_arr⟩ (by omega) (by omega) nD_X10_26 (fun q6 L H hL hH hS => ?_)
  obtain ⟨q7, q8, q9, rfl⟩ : ∃ z0 z1 z2 : Nat, L = [z0, z1, z2] := by
    match L, hL with
    | [z0, z1, z2], _ => exact ⟨z0, z1, z2, rfl⟩
  have hH : n_H x ((h, .inr (9, [.null, .int 0, .ref (q1), .ref (q2), .null])) :: ([] ++ [(q1, n_ar x.cI 3)] ++ [(q2, n_aq x.cII 3 (fun i => [q3, q4, q5].getD i 0)), (q3, n_ar x.cI 126), (q4, n_ar x.cI 126), (q5, n_ar x.cI 126)] ++ [(q6, n_aq x.cII 3 (fun i => [q7, q8, q9].getD i 0)), (q7, n_ar x.cI 126), (q8, n_ar x.cI 126), (q9, n_ar x.cI 126)])) Y H := hH
  refine n_putF F hH hS (C := RX10) (T := TX10) (N := 5) (ci := 9) (v := .ref (q6)) 4 tyX10 ⟨rfl, ingX10, by decide, rfl, rfl, nF_X10_20, tyX10_ok, nmX10⟩ rfl rfl rfl (Nat.le_of_ble_eq_true rfl) nD_X10_30 (fun H locs hH hS => ?_)
  have hH : n_H x ((h, .inr (9, [.null, .int 0, .ref (q1), .ref (q2), .ref (q6)])) :: ([] ++ [(q1, n_ar x.cI 3)] ++ [(q2, n_aq x.cII 3 (fun i => [q3, q4, q5].getD i 0)), (q3, n_ar x.cI 126), (q4, n_ar x.cI 126), (q5, n_ar x.cI 126)] ++ [(q6, n_aq x.cII 3 (fun i => [q7, q8, q9].getD i 0)), (q7, n_ar x.cI 126), (q8, n_ar x.cI 126), (q9, n_ar x.cI 126)])) Y H := hH
  refine lv_aload_n F.1 F.2.1 nD_X10_33 rfl (lv_at hl 0 rfl) ?_
  refine lv_aload_n F.1 F.2.1 nD_X10_34 rfl (lv_at hl 1 rfl) ?_
  refine n_putF F hH hS (C := RX10) (T := TX10) (N := 5) (ci := 9) (v := .ref (a)) 0 tyX10 ⟨rfl, ingX10, by decide, rfl, rfl, nF_X10_23, tyX10_ok, nmX10⟩ rfl rfl rfl (Nat.le_of_ble_eq_true rfl) nD_X10_35 (fun H locs hH hS => ?_)
  have hH : n_H x ((h, .inr (9, [.ref (a), .int 0, .ref (q1), .ref (q2), .ref (q6)])) :: ([] ++ [(q1, n_ar x.cI 3)] ++ [(q2, n_aq x.cII 3 (fun i => [q3, q4, q5].getD i 0)), (q3, n_ar x.cI 126), (q4, n_ar x.cI 126), (q5, n_ar x.cI 126)] ++ [(q6, n_aq x.cII 3 (fun i => [q7, q8, q9].getD i 0)), (q7, n_ar x.cI 126), (q8, n_ar x.cI 126), (q9, n_ar x.cI 126)])) Y H := hH
  refine W.widen (k := 9) (n := 765) (by omega) (by omega) ?_
  exact kk (fun k => [q1, q2, q3, q4, q5, q6, q7, q8, q9].getD k 0) _ _ _ _ hH hS nD_X10_38
theorem nD_X7_0 : decode prog_9_method_1_code 0 = .ok (.aload_n 0, 1) := by decide +kernel
theorem nD_X7_1 : decode prog_9_method_1_code 1 = .ok (.invokespecial 3, 3) := by decide +kernel
theorem nD_X7_4 : decode prog_9_method_1_code 4 = .ok (.aload_n 0, 1) := by decide +kernel
theorem nD_X7_5 : decode prog_9_method_1_code 5 = .ok (.iconst 3, 1) := by decide +kernel
theorem nD_X7_6 : decode prog_9_method_1_code 6 = .ok (.newarray .int, 2) := by decide +kernel
theorem nD_X7_8 : decode prog_9_method_1_code 8 = .ok (.putfield 9, 3) := by decide +kernel
theorem nD_X7_11 : decode prog_9_method_1_code 11 = .ok (.aload_n 0, 1) := by decide +kernel
theorem nD_X7_12 : decode prog_9_method_1_code 12 = .ok (.getstatic 15, 3) := by decide +kernel
theorem nD_X7_15 : decode prog_9_method_1_code 15 = .ok (.arraylength, 1) := by decide +kernel
theorem nD_X7_16 : decode prog_9_method_1_code 16 = .ok (.newarray .int, 2) := by decide +kernel
theorem nD_X7_18 : decode prog_9_method_1_code 18 = .ok (.putfield 18, 3) := by decide +kernel
theorem nD_X7_21 : decode prog_9_method_1_code 21 = .ok (.aload_n 0, 1) := by decide +kernel
theorem nD_X7_22 : decode prog_9_method_1_code 22 = .ok (.getstatic 15, 3) := by decide +kernel
theorem nD_X7_25 : decode prog_9_method_1_code 25 = .ok (.arraylength, 1) := by decide +kernel
theorem nD_X7_26 : decode prog_9_method_1_code 26 = .ok (.newarray .int, 2) := by decide +kernel
theorem nD_X7_28 : decode prog_9_method_1_code 28 = .ok (.putfield 21, 3) := by decide +kernel
theorem nD_X7_31 : decode prog_9_method_1_code 31 = .ok (.aload_n 0, 1) := by decide +kernel
theorem nD_X7_32 : decode prog_9_method_1_code 32 = .ok (.getstatic 15, 3) := by decide +kernel
theorem nD_X7_35 : decode prog_9_method_1_code 35 = .ok (.arraylength, 1) := by decide +kernel
theorem nD_X7_36 : decode prog_9_method_1_code 36 = .ok (.bipush 30, 2) := by decide +kernel
theorem nD_X7_38 : decode prog_9_method_1_code 38 = .ok (.multianewarray 24 2, 4) := by decide +kernel
theorem nD_X7_42 : decode prog_9_method_1_code 42 = .ok (.putfield 26, 3) := by decide +kernel
theorem nD_X7_45 : decode prog_9_method_1_code 45 = .ok (.aload_n 0, 1) := by decide +kernel
theorem nD_X7_46 : decode prog_9_method_1_code 46 = .ok (.getstatic 15, 3) := by decide +kernel
theorem nD_X7_49 : decode prog_9_method_1_code 49 = .ok (.arraylength, 1) := by decide +kernel
theorem nD_X7_50 : decode prog_9_method_1_code 50 = .ok (.bipush 30, 2) := by decide +kernel
theorem nD_X7_52 : decode prog_9_method_1_code 52 = .ok (.multianewarray 24 2, 4) := by decide +kernel
theorem nD_X7_56 : decode prog_9_method_1_code 56 = .ok (.putfield 29, 3) := by decide +kernel
theorem nD_X7_59 : decode prog_9_method_1_code 59 = .ok (.aload_n 0, 1) := by decide +kernel
theorem nD_X7_60 : decode prog_9_method_1_code 60 = .ok (.aload_n 1, 1) := by decide +kernel
theorem nD_X7_61 : decode prog_9_method_1_code 61 = .ok (.putfield 32, 3) := by decide +kernel
theorem nD_X7_64 : decode prog_9_method_1_code 64 = .ok (.aload_n 0, 1) := by decide +kernel
theorem nD_X7_65 : decode prog_9_method_1_code 65 = .ok (.aload_n 2, 1) := by decide +kernel
theorem nD_X7_66 : decode prog_9_method_1_code 66 = .ok (.putfield 36, 3) := by decide +kernel
theorem nD_X7_69 : decode prog_9_method_1_code 69 = .ok (.return_, 1) := by decide +kernel
theorem nO_X7 : Cond.methodLink "NeverCross$Study" 3 Lib.objectInit ∈ goodTbl := q_in 260 (by decide +kernel) rfl
theorem nF_X7_9 : Cond.fieldLink "NeverCross$Study" 9 "NeverCross$Study" "picked" "[I" ∈ goodTbl := q_in 270 (by decide +kernel) rfl
theorem nF_X7_18 : Cond.fieldLink "NeverCross$Study" 18 "NeverCross$Study" "families" "[I" ∈ goodTbl := q_in 271 (by decide +kernel) rfl
theorem nF_X7_21 : Cond.fieldLink "NeverCross$Study" 21 "NeverCross$Study" "leastCost" "[I" ∈ goodTbl := q_in 272 (by decide +kernel) rfl
theorem nC_X7_24 : Cond.classLink "NeverCross$Study" 24 "[[I" ∈ goodTbl := q_in 263 (by decide +kernel) rfl
theorem nF_X7_26 : Cond.fieldLink "NeverCross$Study" 26 "NeverCross$Study" "through" "[[I" ∈ goodTbl := q_in 273 (by decide +kernel) rfl
theorem nF_X7_29 : Cond.fieldLink "NeverCross$Study" 29 "NeverCross$Study" "who" "[[I" ∈ goodTbl := q_in 274 (by decide +kernel) rfl
theorem nF_X7_32 : Cond.fieldLink "NeverCross$Study" 32 "NeverCross$Study" "slope" "LNeverCross$Slope;" ∈ goodTbl := q_in 268 (by decide +kernel) rfl
theorem nF_X7_36 : Cond.fieldLink "NeverCross$Study" 36 "NeverCross$Study" "ways" "LNeverCross$Ways;" ∈ goodTbl := q_in 269 (by decide +kernel) rfl
set_option maxHeartbeats 4000000 in
set_option maxRecDepth 100000 in
theorem n_iX7 (l : Launch) (x : n_Cx) (h a w : Nat) : n_Met l x ⟨"NeverCross$Study", "<init>", "(LNeverCross$Slope;LNeverCross$Ways;)V"⟩ prog_9_method_1_code 3 1 23 579 [.ref h, .ref a, .ref w] [(h, .inr (6, [.int 0, .int 0, .null, .null, .null, .null, .null, .null, .null]))] (fun r => n_study x h a w r) := by
  refine n_met (by decide +kernel) rfl (Nat.le_of_ble_eq_true rfl) ?_
  intro p e R s m args below meth c H ls Q Y F hH hS hl r1 r2 r3 r4 kk
  have hl : lv_has ls 3 [(0, .ref h), (1, .ref a), (2, .ref w)] := hl
  refine lv_aload_n F.1 F.2.1 nD_X7_0 rfl (lv_at hl 0 rfl) ?_
  refine n_obj F ⟨nO_X7, nI_obji, nI_objc⟩ hl.1 (by omega) nD_X7_1 ?_
  refine lv_aload_n F.1 F.2.1 nD_X7_4 rfl (lv_at hl 0 rfl) ?_
  refine lv_iconst (v := 3) F.1 F.2.1 nD_X7_5 (by decide) ?_
  refine n_newI F hH hS (N := 3) (by decide) (by decide) (by decide) nI_arr (by omega) (by omega) nD_X7_6 (fun q1 H hH hS => ?_)
  have hH : n_H x ((h, .inr (6, [.int 0, .int 0, .null, .null, .null, .null, .null, .null, .null])) :: ([] ++ [(q1, n_ar x.cI 3)])) Y H := hH
  refine n_putF F hH hS (C := RX7) (T := TX7) (N := 9) (ci := 6) (v := .ref (q1)) 4 tyX7 ⟨rfl, ingX7, by decide, rfl, rfl, nF_X7_9, tyX7_ok, nmX7⟩ rfl rfl rfl (Nat.le_of_ble_eq_true rfl) nD_X7_8 (fun H locs hH hS => ?_)
  have hH : n_H x ((h, .inr (6, [.int 0, .int 0, .null, .null, .ref (q1), .null, .null, .null, .null])) :: ([] ++ [(q1, n_ar x.cI 3)])) Y H := hH
  refine lv_aload_n F.1 F.2.1 nD_X7_11 rfl (lv_at hl 0 rfl) ?_
  refine n_ord9 F hS nD_X7_12 nD_X7_15 ?_
  refine n_newI F hH hS (N := 9) (by decide) (by decide) (by decide) nI_arr (by omega) (by omega) nD_X7_16 (fun q2 H hH hS => ?_)
  have hH : n_H x ((h, .inr (6, [.int 0, .int 0, .null, .null, .ref (q1), .null, .null, .null, .null])) :: ([] ++ [(q1, n_ar x.cI 3)] ++ [(q2, n_ar x.cI 9)])) Y H := hH
  refine n_putF F hH hS (C := RX7) (T := TX7) (N := 9) (ci := 6) (v := .ref (q2)) 5 tyX7 ⟨rfl, ingX7, by decide, rfl, rfl, nF_X7_18, tyX7_ok, nmX7⟩ rfl rfl rfl (Nat.le_of_ble_eq_true rfl) nD_X7_18 (fun H locs hH hS => ?_)
  have hH : n_H x ((h, .inr (6, [.int 0, .int 0, .null, .null, .ref (q1), .ref (q2), .null, .null, .null])) :: ([] ++ [(q1, n_ar x.cI 3)] ++ [(q2, n_ar x.cI 9)])) Y H := hH
  refine lv_aload_n F.1 F.2.1 nD_X7_21 rfl (lv_at hl 0 rfl) ?_
  refine n_ord9 F hS nD_X7_22 nD_X7_25 ?_
  refine n_newI F hH hS (N := 9) (by decide) (by decide) (by decide) nI_arr (by omega) (by omega) nD_X7_26 (fun q3 H hH hS => ?_)
  have hH : n_H x ((h, .inr (6, [.int 0, .int 0, .null, .null, .ref (q1), .ref (q2), .null, .null, .null])) :: ([] ++ [(q1, n_ar x.cI 3)] ++ [(q2, n_ar x.cI 9)] ++ [(q3, n_ar x.cI 9)])) Y H := hH
  refine n_putF F hH hS (C := RX7) (T := TX7) (N := 9) (ci := 6) (v := .ref (q3)) 6 tyX7 ⟨rfl, ingX7, by decide, rfl, rfl, nF_X7_21, tyX7_ok, nmX7⟩ rfl rfl rfl (Nat.le_of_ble_eq_true rfl) nD_X7_28 (fun H locs hH hS => ?_)
  have hH : n_H x ((h, .inr (6, [.int 0, .int 0, .null, .null, .ref (q1), .ref (q2), .ref (q3), .null, .null])) :: ([] ++ [(q1, n_ar x.cI 3)] ++ [(q2, n_ar x.cI 9)] ++ [(q3, n_ar x.cI 9)])) Y H := hH
  refine lv_aload_n F.1 F.2.1 nD_X7_31 rfl (lv_at hl 0 rfl) ?_
  refine n_ord9 F hS nD_X7_32 nD_X7_35 ?_
  refine lv_bipush (v := 30) F.1 F.2.1 nD_X7_36 (by decide) ?_
  refine n_mna F hH hS (N := 9) (K := 30) (by decide) (by decide) (by decide) (by decide) (by decide) ⟨nC_X7_24, nI_arr⟩ (by omega) (by omega) nD_X7_38 (fun q4 L H hL hH hS => ?_)
  obtain ⟨q5, q6, q7, q8, q9, q10, q11, q12, q13, rfl⟩ : ∃ z0 z1 z2 z3 z4 z5 z6 z7 z8 : Nat, L = [z0, z1, z2, z3, z4, z5, z6, z7, z8] := by
    match L, hL with
    | [z0, z1, z2, z3, z4, z5, z6, z7, z8], _ => exact ⟨z0, z1, z2, z3, z4, z5, z6, z7, z8, rfl⟩
  have hH : n_H x ((h, .inr (6, [.int 0, .int 0, .null, .null, .ref (q1), .ref (q2), .ref (q3), .null, .null])) :: ([] ++ [(q1, n_ar x.cI 3)] ++ [(q2, n_ar x.cI 9)] ++ [(q3, n_ar x.cI 9)] ++ [(q4, n_aq x.cII 9 (fun i => [q5, q6, q7, q8, q9, q10, q11, q12, q13].getD i 0)), (q5, n_ar x.cI 30), (q6, n_ar x.cI 30), (q7, n_ar x.cI 30), (q8, n_ar x.cI 30), (q9, n_ar x.cI 30), (q10, n_ar x.cI 30), (q11, n_ar x.cI 30), (q12, n_ar x.cI 30), (q13, n_ar x.cI 30)])) Y H := hH
  refine n_putF F hH hS (C := RX7) (T := TX7) (N := 9) (ci := 6) (v := .ref (q4)) 7 tyX7 ⟨rfl, ingX7, by decide, rfl, rfl, nF_X7_26, tyX7_ok, nmX7⟩ rfl rfl rfl (Nat.le_of_ble_eq_true rfl) nD_X7_42 (fun H locs hH hS => ?_)
  have hH : n_H x ((h, .inr (6, [.int 0, .int 0, .null, .null, .ref (q1), .ref (q2), .ref (q3), .ref (q4), .null])) :: ([] ++ [(q1, n_ar x.cI 3)] ++ [(q2, n_ar x.cI 9)] ++ [(q3, n_ar x.cI 9)] ++ [(q4, n_aq x.cII 9 (fun i => [q5, q6, q7, q8, q9, q10, q11, q12, q13].getD i 0)), (q5, n_ar x.cI 30), (q6, n_ar x.cI 30), (q7, n_ar x.cI 30), (q8, n_ar x.cI 30), (q9, n_ar x.cI 30), (q10, n_ar x.cI 30), (q11, n_ar x.cI 30), (q12, n_ar x.cI 30), (q13, n_ar x.cI 30)])) Y H := hH
  refine lv_aload_n F.1 F.2.1 nD_X7_45 rfl (lv_at hl 0 rfl) ?_
  refine n_ord9 F hS nD_X7_46 nD_X7_49 ?_
  refine lv_bipush (v := 30) F.1 F.2.1 nD_X7_50 (by decide) ?_
  refine n_mna F hH hS (N := 9) (K := 30) (by decide) (by decide) (by decide) (by decide) (by decide) ⟨nC_X7_24, nI_arr⟩ (by omega) (by omega) nD_X7_52 (fun q14 L H hL hH hS => ?_)
  obtain ⟨q15, q16, q17, q18, q19, q20, q21, q22, q23, rfl⟩ : ∃ z0 z1 z2 z3 z4 z5 z6 z7 z8 : Nat, L = [z0, z1, z2, z3, z4, z5, z6, z7, z8] := by
    match L, hL with
    | [z0, z1, z2, z3, z4, z5, z6, z7, z8], _ => exact ⟨z0, z1, z2, z3, z4, z5, z6, z7, z8, rfl⟩
  have hH : n_H x ((h, .inr (6, [.int 0, .int 0, .null, .null, .ref (q1), .ref (q2), .ref (q3), .ref (q4), .null])) :: ([] ++ [(q1, n_ar x.cI 3)] ++ [(q2, n_ar x.cI 9)] ++ [(q3, n_ar x.cI 9)] ++ [(q4, n_aq x.cII 9 (fun i => [q5, q6, q7, q8, q9, q10, q11, q12, q13].getD i 0)), (q5, n_ar x.cI 30), (q6, n_ar x.cI 30), (q7, n_ar x.cI 30), (q8, n_ar x.cI 30), (q9, n_ar x.cI 30), (q10, n_ar x.cI 30), (q11, n_ar x.cI 30), (q12, n_ar x.cI 30), (q13, n_ar x.cI 30)] ++ [(q14, n_aq x.cII 9 (fun i => [q15, q16, q17, q18, q19, q20, q21, q22, q23].getD i 0)), (q15, n_ar x.cI 30), (q16, n_ar x.cI 30), (q17, n_ar x.cI 30), (q18, n_ar x.cI 30), (q19, n_ar x.cI 30), (q20, n_ar x.cI 30), (q21, n_ar x.cI 30), (q22, n_ar x.cI 30), (q23, n_ar x.cI 30)])) Y H := hH
  refine n_putF F hH hS (C := RX7) (T := TX7) (N := 9) (ci := 6) (v := .ref (q14)) 8 tyX7 ⟨rfl, ingX7, by decide, rfl, rfl, nF_X7_29, tyX7_ok, nmX7⟩ rfl rfl rfl (Nat.le_of_ble_eq_true rfl) nD_X7_56 (fun H locs hH hS => ?_)
  have hH : n_H x ((h, .inr (6, [.int 0, .int 0, .null, .null, .ref (q1), .ref (q2), .ref (q3), .ref (q4), .ref (q14)])) :: ([] ++ [(q1, n_ar x.cI 3)] ++ [(q2, n_ar x.cI 9)] ++ [(q3, n_ar x.cI 9)] ++ [(q4, n_aq x.cII 9 (fun i => [q5, q6, q7, q8, q9, q10, q11, q12, q13].getD i 0)), (q5, n_ar x.cI 30), (q6, n_ar x.cI 30), (q7, n_ar x.cI 30), (q8, n_ar x.cI 30), (q9, n_ar x.cI 30), (q10, n_ar x.cI 30), (q11, n_ar x.cI 30), (q12, n_ar x.cI 30), (q13, n_ar x.cI 30)] ++ [(q14, n_aq x.cII 9 (fun i => [q15, q16, q17, q18, q19, q20, q21, q22, q23].getD i 0)), (q15, n_ar x.cI 30), (q16, n_ar x.cI 30), (q17, n_ar x.cI 30), (q18, n_ar x.cI 30), (q19, n_ar x.cI 30), (q20, n_ar x.cI 30), (q21, n_ar x.cI 30), (q22, n_ar x.cI 30), (q23, n_ar x.cI 30)])) Y H := hH
  refine lv_aload_n F.1 F.2.1 nD_X7_59 rfl (lv_at hl 0 rfl) ?_
  refine lv_aload_n F.1 F.2.1 nD_X7_60 rfl (lv_at hl 1 rfl) ?_
  refine n_putF F hH hS (C := RX7) (T := TX7) (N := 9) (ci := 6) (v := .ref (a)) 2 tyX7 ⟨rfl, ingX7, by decide, rfl, rfl, nF_X7_32, tyX7_ok, nmX7⟩ rfl rfl rfl (Nat.le_of_ble_eq_true rfl) nD_X7_61 (fun H locs hH hS => ?_)
  have hH : n_H x ((h, .inr (6, [.int 0, .int 0, .ref (a), .null, .ref (q1), .ref (q2), .ref (q3), .ref (q4), .ref (q14)])) :: ([] ++ [(q1, n_ar x.cI 3)] ++ [(q2, n_ar x.cI 9)] ++ [(q3, n_ar x.cI 9)] ++ [(q4, n_aq x.cII 9 (fun i => [q5, q6, q7, q8, q9, q10, q11, q12, q13].getD i 0)), (q5, n_ar x.cI 30), (q6, n_ar x.cI 30), (q7, n_ar x.cI 30), (q8, n_ar x.cI 30), (q9, n_ar x.cI 30), (q10, n_ar x.cI 30), (q11, n_ar x.cI 30), (q12, n_ar x.cI 30), (q13, n_ar x.cI 30)] ++ [(q14, n_aq x.cII 9 (fun i => [q15, q16, q17, q18, q19, q20, q21, q22, q23].getD i 0)), (q15, n_ar x.cI 30), (q16, n_ar x.cI 30), (q17, n_ar x.cI 30), (q18, n_ar x.cI 30), (q19, n_ar x.cI 30), (q20, n_ar x.cI 30), (q21, n_ar x.cI 30), (q22, n_ar x.cI 30), (q23, n_ar x.cI 30)])) Y H := hH
  refine lv_aload_n F.1 F.2.1 nD_X7_64 rfl (lv_at hl 0 rfl) ?_
  refine lv_aload_n F.1 F.2.1 nD_X7_65 rfl (lv_at hl 2 rfl) ?_
  refine n_putF F hH hS (C := RX7) (T := TX7) (N := 9) (ci := 6) (v := .ref (w)) 3 tyX7 ⟨rfl, ingX7, by decide, rfl, rfl, nF_X7_36, tyX7_ok, nmX7⟩ rfl rfl rfl (Nat.le_of_ble_eq_true rfl) nD_X7_66 (fun H locs hH hS => ?_)
  have hH : n_H x ((h, .inr (6, [.int 0, .int 0, .ref (a), .ref (w), .ref (q1), .ref (q2), .ref (q3), .ref (q4), .ref (q14)])) :: ([] ++ [(q1, n_ar x.cI 3)] ++ [(q2, n_ar x.cI 9)] ++ [(q3, n_ar x.cI 9)] ++ [(q4, n_aq x.cII 9 (fun i => [q5, q6, q7, q8, q9, q10, q11, q12, q13].getD i 0)), (q5, n_ar x.cI 30), (q6, n_ar x.cI 30), (q7, n_ar x.cI 30), (q8, n_ar x.cI 30), (q9, n_ar x.cI 30), (q10, n_ar x.cI 30), (q11, n_ar x.cI 30), (q12, n_ar x.cI 30), (q13, n_ar x.cI 30)] ++ [(q14, n_aq x.cII 9 (fun i => [q15, q16, q17, q18, q19, q20, q21, q22, q23].getD i 0)), (q15, n_ar x.cI 30), (q16, n_ar x.cI 30), (q17, n_ar x.cI 30), (q18, n_ar x.cI 30), (q19, n_ar x.cI 30), (q20, n_ar x.cI 30), (q21, n_ar x.cI 30), (q22, n_ar x.cI 30), (q23, n_ar x.cI 30)])) Y H := hH
  refine W.widen (k := 23) (n := 579) (by omega) (by omega) ?_
  exact kk (fun k => [q1, q2, q3, q4, q5, q6, q7, q8, q9, q10, q11, q12, q13, q14, q15, q16, q17, q18, q19, q20, q21, q22, q23].getD k 0) _ _ _ _ hH hS nD_X7_69
theorem nD_X1_0 : decode prog_3_method_1_code 0 = .ok (.aload_n 0, 1) := by decide +kernel
theorem nD_X1_1 : decode prog_3_method_1_code 1 = .ok (.invokespecial 3, 3) := by decide +kernel
theorem nD_X1_4 : decode prog_3_method_1_code 4 = .ok (.aload_n 0, 1) := by decide +kernel
theorem nD_X1_5 : decode prog_3_method_1_code 5 = .ok (.iconst 3, 1) := by decide +kernel
theorem nD_X1_6 : decode prog_3_method_1_code 6 = .ok (.newarray .int, 2) := by decide +kernel
theorem nD_X1_8 : decode prog_3_method_1_code 8 = .ok (.putfield 9, 3) := by decide +kernel
theorem nD_X1_11 : decode prog_3_method_1_code 11 = .ok (.aload_n 0, 1) := by decide +kernel
theorem nD_X1_12 : decode prog_3_method_1_code 12 = .ok (.iconst 3, 1) := by decide +kernel
theorem nD_X1_13 : decode prog_3_method_1_code 13 = .ok (.newarray .int, 2) := by decide +kernel
theorem nD_X1_15 : decode prog_3_method_1_code 15 = .ok (.putfield 15, 3) := by decide +kernel
theorem nD_X1_18 : decode prog_3_method_1_code 18 = .ok (.aload_n 0, 1) := by decide +kernel
theorem nD_X1_19 : decode prog_3_method_1_code 19 = .ok (.aload_n 1, 1) := by decide +kernel
theorem nD_X1_20 : decode prog_3_method_1_code 20 = .ok (.putfield 18, 3) := by decide +kernel
theorem nD_X1_23 : decode prog_3_method_1_code 23 = .ok (.return_, 1) := by decide +kernel
theorem nO_X1 : Cond.methodLink "NeverCross$Finder" 3 Lib.objectInit ∈ goodTbl := q_in 299 (by decide +kernel) rfl
theorem nF_X1_9 : Cond.fieldLink "NeverCross$Finder" 9 "NeverCross$Finder" "picked" "[I" ∈ goodTbl := q_in 300 (by decide +kernel) rfl
theorem nF_X1_15 : Cond.fieldLink "NeverCross$Finder" 15 "NeverCross$Finder" "open" "[I" ∈ goodTbl := q_in 303 (by decide +kernel) rfl
theorem nF_X1_18 : Cond.fieldLink "NeverCross$Finder" 18 "NeverCross$Finder" "ways" "LNeverCross$Ways;" ∈ goodTbl := q_in 302 (by decide +kernel) rfl
set_option maxHeartbeats 4000000 in
set_option maxRecDepth 100000 in
theorem n_iX1 (l : Launch) (x : n_Cx) (h w : Nat) : n_Met l x ⟨"NeverCross$Finder", "<init>", "(LNeverCross$Ways;)V"⟩ prog_3_method_1_code 2 1 2 6 [.ref h, .ref w] [(h, .inr (1, [.null, .null, .null, .int 0, .int 0, .int 0]))] (fun r => n_finder x h w r) := by
  refine n_met (by decide +kernel) rfl (Nat.le_of_ble_eq_true rfl) ?_
  intro p e R s m args below meth c H ls Q Y F hH hS hl r1 r2 r3 r4 kk
  have hl : lv_has ls 2 [(0, .ref h), (1, .ref w)] := hl
  refine lv_aload_n F.1 F.2.1 nD_X1_0 rfl (lv_at hl 0 rfl) ?_
  refine n_obj F ⟨nO_X1, nI_obji, nI_objc⟩ hl.1 (by omega) nD_X1_1 ?_
  refine lv_aload_n F.1 F.2.1 nD_X1_4 rfl (lv_at hl 0 rfl) ?_
  refine lv_iconst (v := 3) F.1 F.2.1 nD_X1_5 (by decide) ?_
  refine n_newI F hH hS (N := 3) (by decide) (by decide) (by decide) nI_arr (by omega) (by omega) nD_X1_6 (fun q1 H hH hS => ?_)
  have hH : n_H x ((h, .inr (1, [.null, .null, .null, .int 0, .int 0, .int 0])) :: ([] ++ [(q1, n_ar x.cI 3)])) Y H := hH
  refine n_putF F hH hS (C := RX1) (T := TX1) (N := 6) (ci := 1) (v := .ref (q1)) 0 tyX1 ⟨rfl, ingX1, by decide, rfl, rfl, nF_X1_9, tyX1_ok, nmX1⟩ rfl rfl rfl (Nat.le_of_ble_eq_true rfl) nD_X1_8 (fun H locs hH hS => ?_)
  have hH : n_H x ((h, .inr (1, [.ref (q1), .null, .null, .int 0, .int 0, .int 0])) :: ([] ++ [(q1, n_ar x.cI 3)])) Y H := hH
  refine lv_aload_n F.1 F.2.1 nD_X1_11 rfl (lv_at hl 0 rfl) ?_
  refine lv_iconst (v := 3) F.1 F.2.1 nD_X1_12 (by decide) ?_
  refine n_newI F hH hS (N := 3) (by decide) (by decide) (by decide) nI_arr (by omega) (by omega) nD_X1_13 (fun q2 H hH hS => ?_)
  have hH : n_H x ((h, .inr (1, [.ref (q1), .null, .null, .int 0, .int 0, .int 0])) :: ([] ++ [(q1, n_ar x.cI 3)] ++ [(q2, n_ar x.cI 3)])) Y H := hH
  refine n_putF F hH hS (C := RX1) (T := TX1) (N := 6) (ci := 1) (v := .ref (q2)) 2 tyX1 ⟨rfl, ingX1, by decide, rfl, rfl, nF_X1_15, tyX1_ok, nmX1⟩ rfl rfl rfl (Nat.le_of_ble_eq_true rfl) nD_X1_15 (fun H locs hH hS => ?_)
  have hH : n_H x ((h, .inr (1, [.ref (q1), .null, .ref (q2), .int 0, .int 0, .int 0])) :: ([] ++ [(q1, n_ar x.cI 3)] ++ [(q2, n_ar x.cI 3)])) Y H := hH
  refine lv_aload_n F.1 F.2.1 nD_X1_18 rfl (lv_at hl 0 rfl) ?_
  refine lv_aload_n F.1 F.2.1 nD_X1_19 rfl (lv_at hl 1 rfl) ?_
  refine n_putF F hH hS (C := RX1) (T := TX1) (N := 6) (ci := 1) (v := .ref (w)) 1 tyX1 ⟨rfl, ingX1, by decide, rfl, rfl, nF_X1_18, tyX1_ok, nmX1⟩ rfl rfl rfl (Nat.le_of_ble_eq_true rfl) nD_X1_20 (fun H locs hH hS => ?_)
  have hH : n_H x ((h, .inr (1, [.ref (q1), .ref (w), .ref (q2), .int 0, .int 0, .int 0])) :: ([] ++ [(q1, n_ar x.cI 3)] ++ [(q2, n_ar x.cI 3)])) Y H := hH
  refine W.widen (k := 2) (n := 6) (by omega) (by omega) ?_
  exact kk (fun k => [q1, q2].getD k 0) _ _ _ _ hH hS nD_X1_23
theorem nD_X12_0 : decode prog_14_method_1_code 0 = .ok (.aload_n 0, 1) := by decide +kernel
theorem nD_X12_1 : decode prog_14_method_1_code 1 = .ok (.invokespecial 1, 3) := by decide +kernel
theorem nD_X12_4 : decode prog_14_method_1_code 4 = .ok (.aload_n 0, 1) := by decide +kernel
theorem nD_X12_5 : decode prog_14_method_1_code 5 = .ok (.bipush 7, 2) := by decide +kernel
theorem nD_X12_7 : decode prog_14_method_1_code 7 = .ok (.newarray .int, 2) := by decide +kernel
theorem nD_X12_9 : decode prog_14_method_1_code 9 = .ok (.putfield 7, 3) := by decide +kernel
theorem nD_X12_12 : decode prog_14_method_1_code 12 = .ok (.aload_n 0, 1) := by decide +kernel
theorem nD_X12_13 : decode prog_14_method_1_code 13 = .ok (.sipush 135, 3) := by decide +kernel
theorem nD_X12_16 : decode prog_14_method_1_code 16 = .ok (.newarray .int, 2) := by decide +kernel
theorem nD_X12_18 : decode prog_14_method_1_code 18 = .ok (.putfield 13, 3) := by decide +kernel
theorem nD_X12_21 : decode prog_14_method_1_code 21 = .ok (.aload_n 0, 1) := by decide +kernel
theorem nD_X12_22 : decode prog_14_method_1_code 22 = .ok (.sipush 135, 3) := by decide +kernel
theorem nD_X12_25 : decode prog_14_method_1_code 25 = .ok (.newarray .int, 2) := by decide +kernel
theorem nD_X12_27 : decode prog_14_method_1_code 27 = .ok (.putfield 16, 3) := by decide +kernel
theorem nD_X12_30 : decode prog_14_method_1_code 30 = .ok (.aload_n 0, 1) := by decide +kernel
theorem nD_X12_31 : decode prog_14_method_1_code 31 = .ok (.sipush 135, 3) := by decide +kernel
theorem nD_X12_34 : decode prog_14_method_1_code 34 = .ok (.newarray .int, 2) := by decide +kernel
theorem nD_X12_36 : decode prog_14_method_1_code 36 = .ok (.putfield 19, 3) := by decide +kernel
theorem nD_X12_39 : decode prog_14_method_1_code 39 = .ok (.aload_n 0, 1) := by decide +kernel
theorem nD_X12_40 : decode prog_14_method_1_code 40 = .ok (.bipush 48, 2) := by decide +kernel
theorem nD_X12_42 : decode prog_14_method_1_code 42 = .ok (.newarray .int, 2) := by decide +kernel
theorem nD_X12_44 : decode prog_14_method_1_code 44 = .ok (.putfield 22, 3) := by decide +kernel
theorem nD_X12_47 : decode prog_14_method_1_code 47 = .ok (.aload_n 0, 1) := by decide +kernel
theorem nD_X12_48 : decode prog_14_method_1_code 48 = .ok (.iconst 3, 1) := by decide +kernel
theorem nD_X12_49 : decode prog_14_method_1_code 49 = .ok (.newarray .int, 2) := by decide +kernel
theorem nD_X12_51 : decode prog_14_method_1_code 51 = .ok (.putfield 25, 3) := by decide +kernel
theorem nD_X12_54 : decode prog_14_method_1_code 54 = .ok (.aload_n 0, 1) := by decide +kernel
theorem nD_X12_55 : decode prog_14_method_1_code 55 = .ok (.sipush 1200, 3) := by decide +kernel
theorem nD_X12_58 : decode prog_14_method_1_code 58 = .ok (.newarray .int, 2) := by decide +kernel
theorem nD_X12_60 : decode prog_14_method_1_code 60 = .ok (.putfield 28, 3) := by decide +kernel
theorem nD_X12_63 : decode prog_14_method_1_code 63 = .ok (.aload_n 0, 1) := by decide +kernel
theorem nD_X12_64 : decode prog_14_method_1_code 64 = .ok (.sipush 1200, 3) := by decide +kernel
theorem nD_X12_67 : decode prog_14_method_1_code 67 = .ok (.newarray .int, 2) := by decide +kernel
theorem nD_X12_69 : decode prog_14_method_1_code 69 = .ok (.putfield 31, 3) := by decide +kernel
theorem nD_X12_72 : decode prog_14_method_1_code 72 = .ok (.aload_n 0, 1) := by decide +kernel
theorem nD_X12_73 : decode prog_14_method_1_code 73 = .ok (.sipush 1200, 3) := by decide +kernel
theorem nD_X12_76 : decode prog_14_method_1_code 76 = .ok (.newarray .int, 2) := by decide +kernel
theorem nD_X12_78 : decode prog_14_method_1_code 78 = .ok (.putfield 34, 3) := by decide +kernel
theorem nD_X12_81 : decode prog_14_method_1_code 81 = .ok (.aload_n 0, 1) := by decide +kernel
theorem nD_X12_82 : decode prog_14_method_1_code 82 = .ok (.sipush 1200, 3) := by decide +kernel
theorem nD_X12_85 : decode prog_14_method_1_code 85 = .ok (.newarray .int, 2) := by decide +kernel
theorem nD_X12_87 : decode prog_14_method_1_code 87 = .ok (.putfield 37, 3) := by decide +kernel
theorem nD_X12_90 : decode prog_14_method_1_code 90 = .ok (.aload_n 0, 1) := by decide +kernel
theorem nD_X12_91 : decode prog_14_method_1_code 91 = .ok (.iconst 3, 1) := by decide +kernel
theorem nD_X12_92 : decode prog_14_method_1_code 92 = .ok (.newarray .int, 2) := by decide +kernel
theorem nD_X12_94 : decode prog_14_method_1_code 94 = .ok (.putfield 40, 3) := by decide +kernel
theorem nD_X12_97 : decode prog_14_method_1_code 97 = .ok (.aload_n 0, 1) := by decide +kernel
theorem nD_X12_98 : decode prog_14_method_1_code 98 = .ok (.iconst 3, 1) := by decide +kernel
theorem nD_X12_99 : decode prog_14_method_1_code 99 = .ok (.newarray .int, 2) := by decide +kernel
theorem nD_X12_101 : decode prog_14_method_1_code 101 = .ok (.putfield 43, 3) := by decide +kernel
theorem nD_X12_104 : decode prog_14_method_1_code 104 = .ok (.aload_n 0, 1) := by decide +kernel
theorem nD_X12_105 : decode prog_14_method_1_code 105 = .ok (.iconst 3, 1) := by decide +kernel
theorem nD_X12_106 : decode prog_14_method_1_code 106 = .ok (.newarray .int, 2) := by decide +kernel
theorem nD_X12_108 : decode prog_14_method_1_code 108 = .ok (.putfield 46, 3) := by decide +kernel
theorem nD_X12_111 : decode prog_14_method_1_code 111 = .ok (.aload_n 0, 1) := by decide +kernel
theorem nD_X12_112 : decode prog_14_method_1_code 112 = .ok (.iconst 3, 1) := by decide +kernel
theorem nD_X12_113 : decode prog_14_method_1_code 113 = .ok (.newarray .int, 2) := by decide +kernel
theorem nD_X12_115 : decode prog_14_method_1_code 115 = .ok (.putfield 49, 3) := by decide +kernel
theorem nD_X12_118 : decode prog_14_method_1_code 118 = .ok (.aload_n 0, 1) := by decide +kernel
theorem nD_X12_119 : decode prog_14_method_1_code 119 = .ok (.bipush 30, 2) := by decide +kernel
theorem nD_X12_121 : decode prog_14_method_1_code 121 = .ok (.newarray .int, 2) := by decide +kernel
theorem nD_X12_123 : decode prog_14_method_1_code 123 = .ok (.putfield 52, 3) := by decide +kernel
theorem nD_X12_126 : decode prog_14_method_1_code 126 = .ok (.aload_n 0, 1) := by decide +kernel
theorem nD_X12_127 : decode prog_14_method_1_code 127 = .ok (.bipush 30, 2) := by decide +kernel
theorem nD_X12_129 : decode prog_14_method_1_code 129 = .ok (.newarray .int, 2) := by decide +kernel
theorem nD_X12_131 : decode prog_14_method_1_code 131 = .ok (.putfield 55, 3) := by decide +kernel
theorem nD_X12_134 : decode prog_14_method_1_code 134 = .ok (.aload_n 0, 1) := by decide +kernel
theorem nD_X12_135 : decode prog_14_method_1_code 135 = .ok (.sipush 135, 3) := by decide +kernel
theorem nD_X12_138 : decode prog_14_method_1_code 138 = .ok (.newarray .int, 2) := by decide +kernel
theorem nD_X12_140 : decode prog_14_method_1_code 140 = .ok (.putfield 58, 3) := by decide +kernel
theorem nD_X12_143 : decode prog_14_method_1_code 143 = .ok (.aload_n 0, 1) := by decide +kernel
theorem nD_X12_144 : decode prog_14_method_1_code 144 = .ok (.iconst 3, 1) := by decide +kernel
theorem nD_X12_145 : decode prog_14_method_1_code 145 = .ok (.newarray .int, 2) := by decide +kernel
theorem nD_X12_147 : decode prog_14_method_1_code 147 = .ok (.putfield 61, 3) := by decide +kernel
theorem nD_X12_150 : decode prog_14_method_1_code 150 = .ok (.return_, 1) := by decide +kernel
theorem nO_X12 : Cond.methodLink "NeverCrossModel" 1 Lib.objectInit ∈ goodTbl := q_in 787 (by decide +kernel) rfl
theorem nF_X12_7 : Cond.fieldLink "NeverCrossModel" 7 "NeverCrossModel" "refusals" "[I" ∈ goodTbl := q_in 788 (by decide +kernel) rfl
theorem nF_X12_13 : Cond.fieldLink "NeverCrossModel" 13 "NeverCrossModel" "s" "[I" ∈ goodTbl := q_in 789 (by decide +kernel) rfl
theorem nF_X12_16 : Cond.fieldLink "NeverCrossModel" 16 "NeverCrossModel" "image" "[I" ∈ goodTbl := q_in 790 (by decide +kernel) rfl
theorem nF_X12_19 : Cond.fieldLink "NeverCrossModel" 19 "NeverCrossModel" "read" "[I" ∈ goodTbl := q_in 791 (by decide +kernel) rfl
theorem nF_X12_22 : Cond.fieldLink "NeverCrossModel" 22 "NeverCrossModel" "tape" "[I" ∈ goodTbl := q_in 793 (by decide +kernel) rfl
theorem nF_X12_25 : Cond.fieldLink "NeverCrossModel" 25 "NeverCrossModel" "order" "[I" ∈ goodTbl := q_in 797 (by decide +kernel) rfl
theorem nF_X12_28 : Cond.fieldLink "NeverCrossModel" 28 "NeverCrossModel" "way" "[I" ∈ goodTbl := q_in 798 (by decide +kernel) rfl
theorem nF_X12_31 : Cond.fieldLink "NeverCrossModel" 31 "NeverCrossModel" "steps" "[I" ∈ goodTbl := q_in 799 (by decide +kernel) rfl
theorem nF_X12_34 : Cond.fieldLink "NeverCrossModel" 34 "NeverCrossModel" "length" "[I" ∈ goodTbl := q_in 800 (by decide +kernel) rfl
theorem nF_X12_37 : Cond.fieldLink "NeverCrossModel" 37 "NeverCrossModel" "well" "[I" ∈ goodTbl := q_in 801 (by decide +kernel) rfl
theorem nF_X12_40 : Cond.fieldLink "NeverCrossModel" 40 "NeverCrossModel" "wayed" "[I" ∈ goodTbl := q_in 802 (by decide +kernel) rfl
theorem nF_X12_43 : Cond.fieldLink "NeverCrossModel" 43 "NeverCrossModel" "wants" "[I" ∈ goodTbl := q_in 803 (by decide +kernel) rfl
theorem nF_X12_46 : Cond.fieldLink "NeverCrossModel" 46 "NeverCrossModel" "picked" "[I" ∈ goodTbl := q_in 804 (by decide +kernel) rfl
theorem nF_X12_49 : Cond.fieldLink "NeverCrossModel" 49 "NeverCrossModel" "foundPick" "[I" ∈ goodTbl := q_in 805 (by decide +kernel) rfl
theorem nF_X12_52 : Cond.fieldLink "NeverCrossModel" 52 "NeverCrossModel" "usedBy" "[I" ∈ goodTbl := q_in 806 (by decide +kernel) rfl
theorem nF_X12_55 : Cond.fieldLink "NeverCrossModel" 55 "NeverCrossModel" "whoIn" "[I" ∈ goodTbl := q_in 807 (by decide +kernel) rfl
theorem nF_X12_58 : Cond.fieldLink "NeverCrossModel" 58 "NeverCrossModel" "keptRow" "[I" ∈ goodTbl := q_in 813 (by decide +kernel) rfl
theorem nF_X12_61 : Cond.fieldLink "NeverCrossModel" 61 "NeverCrossModel" "toldEnd" "[I" ∈ goodTbl := q_in 814 (by decide +kernel) rfl
set_option maxHeartbeats 4000000 in
set_option maxRecDepth 100000 in
theorem n_iX12 (l : Launch) (x : n_Cx) (h : Nat) : n_Met l x ⟨"NeverCrossModel", "<init>", "()V"⟩ prog_14_method_1_code 1 1 18 5473 [.ref h] [(h, .inr (11, [.null, .null, .null, .null, .int 0, .null, .int 0, .int 0, .int 0, .null, .null, .null, .null, .null, .null, .null, .null, .null, .null, .null, .int 0, .int 0, .int 0, .int 0, .int 0, .null, .null, .int 0]))] (fun r => n_model x h r) := by
  refine n_met (by decide +kernel) rfl (Nat.le_of_ble_eq_true rfl) ?_
  intro p e R s m args below meth c H ls Q Y F hH hS hl r1 r2 r3 r4 kk
  have hl : lv_has ls 1 [(0, .ref h)] := hl
  refine lv_aload_n F.1 F.2.1 nD_X12_0 rfl (lv_at hl 0 rfl) ?_
  refine n_obj F ⟨nO_X12, nI_obji, nI_objc⟩ hl.1 (by omega) nD_X12_1 ?_
  refine lv_aload_n F.1 F.2.1 nD_X12_4 rfl (lv_at hl 0 rfl) ?_
  refine lv_bipush (v := 7) F.1 F.2.1 nD_X12_5 (by decide) ?_
  refine n_newI F hH hS (N := 7) (by decide) (by decide) (by decide) nI_arr (by omega) (by omega) nD_X12_7 (fun q1 H hH hS => ?_)
  have hH : n_H x ((h, .inr (11, [.null, .null, .null, .null, .int 0, .null, .int 0, .int 0, .int 0, .null, .null, .null, .null, .null, .null, .null, .null, .null, .null, .null, .int 0, .int 0, .int 0, .int 0, .int 0, .null, .null, .int 0])) :: ([] ++ [(q1, n_ar x.cI 7)])) Y H := hH
  refine n_putF F hH hS (C := RX12) (T := TX12) (N := 28) (ci := 11) (v := .ref (q1)) 0 tyX12 ⟨rfl, ingX12, by decide, rfl, rfl, nF_X12_7, tyX12_ok, nmX12⟩ rfl rfl rfl (Nat.le_of_ble_eq_true rfl) nD_X12_9 (fun H locs hH hS => ?_)
  have hH : n_H x ((h, .inr (11, [.ref (q1), .null, .null, .null, .int 0, .null, .int 0, .int 0, .int 0, .null, .null, .null, .null, .null, .null, .null, .null, .null, .null, .null, .int 0, .int 0, .int 0, .int 0, .int 0, .null, .null, .int 0])) :: ([] ++ [(q1, n_ar x.cI 7)])) Y H := hH
  refine lv_aload_n F.1 F.2.1 nD_X12_12 rfl (lv_at hl 0 rfl) ?_
  refine lv_sipush (v := 135) F.1 F.2.1 nD_X12_13 (by decide) ?_
  refine n_newI F hH hS (N := 135) (by decide) (by decide) (by decide) nI_arr (by omega) (by omega) nD_X12_16 (fun q2 H hH hS => ?_)
  have hH : n_H x ((h, .inr (11, [.ref (q1), .null, .null, .null, .int 0, .null, .int 0, .int 0, .int 0, .null, .null, .null, .null, .null, .null, .null, .null, .null, .null, .null, .int 0, .int 0, .int 0, .int 0, .int 0, .null, .null, .int 0])) :: ([] ++ [(q1, n_ar x.cI 7)] ++ [(q2, n_ar x.cI 135)])) Y H := hH
  refine n_putF F hH hS (C := RX12) (T := TX12) (N := 28) (ci := 11) (v := .ref (q2)) 1 tyX12 ⟨rfl, ingX12, by decide, rfl, rfl, nF_X12_13, tyX12_ok, nmX12⟩ rfl rfl rfl (Nat.le_of_ble_eq_true rfl) nD_X12_18 (fun H locs hH hS => ?_)
  have hH : n_H x ((h, .inr (11, [.ref (q1), .ref (q2), .null, .null, .int 0, .null, .int 0, .int 0, .int 0, .null, .null, .null, .null, .null, .null, .null, .null, .null, .null, .null, .int 0, .int 0, .int 0, .int 0, .int 0, .null, .null, .int 0])) :: ([] ++ [(q1, n_ar x.cI 7)] ++ [(q2, n_ar x.cI 135)])) Y H := hH
  refine lv_aload_n F.1 F.2.1 nD_X12_21 rfl (lv_at hl 0 rfl) ?_
  refine lv_sipush (v := 135) F.1 F.2.1 nD_X12_22 (by decide) ?_
  refine n_newI F hH hS (N := 135) (by decide) (by decide) (by decide) nI_arr (by omega) (by omega) nD_X12_25 (fun q3 H hH hS => ?_)
  have hH : n_H x ((h, .inr (11, [.ref (q1), .ref (q2), .null, .null, .int 0, .null, .int 0, .int 0, .int 0, .null, .null, .null, .null, .null, .null, .null, .null, .null, .null, .null, .int 0, .int 0, .int 0, .int 0, .int 0, .null, .null, .int 0])) :: ([] ++ [(q1, n_ar x.cI 7)] ++ [(q2, n_ar x.cI 135)] ++ [(q3, n_ar x.cI 135)])) Y H := hH
  refine n_putF F hH hS (C := RX12) (T := TX12) (N := 28) (ci := 11) (v := .ref (q3)) 2 tyX12 ⟨rfl, ingX12, by decide, rfl, rfl, nF_X12_16, tyX12_ok, nmX12⟩ rfl rfl rfl (Nat.le_of_ble_eq_true rfl) nD_X12_27 (fun H locs hH hS => ?_)
  have hH : n_H x ((h, .inr (11, [.ref (q1), .ref (q2), .ref (q3), .null, .int 0, .null, .int 0, .int 0, .int 0, .null, .null, .null, .null, .null, .null, .null, .null, .null, .null, .null, .int 0, .int 0, .int 0, .int 0, .int 0, .null, .null, .int 0])) :: ([] ++ [(q1, n_ar x.cI 7)] ++ [(q2, n_ar x.cI 135)] ++ [(q3, n_ar x.cI 135)])) Y H := hH
  refine lv_aload_n F.1 F.2.1 nD_X12_30 rfl (lv_at hl 0 rfl) ?_
  refine lv_sipush (v := 135) F.1 F.2.1 nD_X12_31 (by decide) ?_
  refine n_newI F hH hS (N := 135) (by decide) (by decide) (by decide) nI_arr (by omega) (by omega) nD_X12_34 (fun q4 H hH hS => ?_)
  have hH : n_H x ((h, .inr (11, [.ref (q1), .ref (q2), .ref (q3), .null, .int 0, .null, .int 0, .int 0, .int 0, .null, .null, .null, .null, .null, .null, .null, .null, .null, .null, .null, .int 0, .int 0, .int 0, .int 0, .int 0, .null, .null, .int 0])) :: ([] ++ [(q1, n_ar x.cI 7)] ++ [(q2, n_ar x.cI 135)] ++ [(q3, n_ar x.cI 135)] ++ [(q4, n_ar x.cI 135)])) Y H := hH
  refine n_putF F hH hS (C := RX12) (T := TX12) (N := 28) (ci := 11) (v := .ref (q4)) 3 tyX12 ⟨rfl, ingX12, by decide, rfl, rfl, nF_X12_19, tyX12_ok, nmX12⟩ rfl rfl rfl (Nat.le_of_ble_eq_true rfl) nD_X12_36 (fun H locs hH hS => ?_)
  have hH : n_H x ((h, .inr (11, [.ref (q1), .ref (q2), .ref (q3), .ref (q4), .int 0, .null, .int 0, .int 0, .int 0, .null, .null, .null, .null, .null, .null, .null, .null, .null, .null, .null, .int 0, .int 0, .int 0, .int 0, .int 0, .null, .null, .int 0])) :: ([] ++ [(q1, n_ar x.cI 7)] ++ [(q2, n_ar x.cI 135)] ++ [(q3, n_ar x.cI 135)] ++ [(q4, n_ar x.cI 135)])) Y H := hH
  refine lv_aload_n F.1 F.2.1 nD_X12_39 rfl (lv_at hl 0 rfl) ?_
  refine lv_bipush (v := 48) F.1 F.2.1 nD_X12_40 (by decide) ?_
  refine n_newI F hH hS (N := 48) (by decide) (by decide) (by decide) nI_arr (by omega) (by omega) nD_X12_42 (fun q5 H hH hS => ?_)
  have hH : n_H x ((h, .inr (11, [.ref (q1), .ref (q2), .ref (q3), .ref (q4), .int 0, .null, .int 0, .int 0, .int 0, .null, .null, .null, .null, .null, .null, .null, .null, .null, .null, .null, .int 0, .int 0, .int 0, .int 0, .int 0, .null, .null, .int 0])) :: ([] ++ [(q1, n_ar x.cI 7)] ++ [(q2, n_ar x.cI 135)] ++ [(q3, n_ar x.cI 135)] ++ [(q4, n_ar x.cI 135)] ++ [(q5, n_ar x.cI 48)])) Y H := hH
  refine n_putF F hH hS (C := RX12) (T := TX12) (N := 28) (ci := 11) (v := .ref (q5)) 5 tyX12 ⟨rfl, ingX12, by decide, rfl, rfl, nF_X12_22, tyX12_ok, nmX12⟩ rfl rfl rfl (Nat.le_of_ble_eq_true rfl) nD_X12_44 (fun H locs hH hS => ?_)
  have hH : n_H x ((h, .inr (11, [.ref (q1), .ref (q2), .ref (q3), .ref (q4), .int 0, .ref (q5), .int 0, .int 0, .int 0, .null, .null, .null, .null, .null, .null, .null, .null, .null, .null, .null, .int 0, .int 0, .int 0, .int 0, .int 0, .null, .null, .int 0])) :: ([] ++ [(q1, n_ar x.cI 7)] ++ [(q2, n_ar x.cI 135)] ++ [(q3, n_ar x.cI 135)] ++ [(q4, n_ar x.cI 135)] ++ [(q5, n_ar x.cI 48)])) Y H := hH
  refine lv_aload_n F.1 F.2.1 nD_X12_47 rfl (lv_at hl 0 rfl) ?_
  refine lv_iconst (v := 3) F.1 F.2.1 nD_X12_48 (by decide) ?_
  refine n_newI F hH hS (N := 3) (by decide) (by decide) (by decide) nI_arr (by omega) (by omega) nD_X12_49 (fun q6 H hH hS => ?_)
  have hH : n_H x ((h, .inr (11, [.ref (q1), .ref (q2), .ref (q3), .ref (q4), .int 0, .ref (q5), .int 0, .int 0, .int 0, .null, .null, .null, .null, .null, .null, .null, .null, .null, .null, .null, .int 0, .int 0, .int 0, .int 0, .int 0, .null, .null, .int 0])) :: ([] ++ [(q1, n_ar x.cI 7)] ++ [(q2, n_ar x.cI 135)] ++ [(q3, n_ar x.cI 135)] ++ [(q4, n_ar x.cI 135)] ++ [(q5, n_ar x.cI 48)] ++ [(q6, n_ar x.cI 3)])) Y H := hH
  refine n_putF F hH hS (C := RX12) (T := TX12) (N := 28) (ci := 11) (v := .ref (q6)) 9 tyX12 ⟨rfl, ingX12, by decide, rfl, rfl, nF_X12_25, tyX12_ok, nmX12⟩ rfl rfl rfl (Nat.le_of_ble_eq_true rfl) nD_X12_51 (fun H locs hH hS => ?_)
  have hH : n_H x ((h, .inr (11, [.ref (q1), .ref (q2), .ref (q3), .ref (q4), .int 0, .ref (q5), .int 0, .int 0, .int 0, .ref (q6), .null, .null, .null, .null, .null, .null, .null, .null, .null, .null, .int 0, .int 0, .int 0, .int 0, .int 0, .null, .null, .int 0])) :: ([] ++ [(q1, n_ar x.cI 7)] ++ [(q2, n_ar x.cI 135)] ++ [(q3, n_ar x.cI 135)] ++ [(q4, n_ar x.cI 135)] ++ [(q5, n_ar x.cI 48)] ++ [(q6, n_ar x.cI 3)])) Y H := hH
  refine lv_aload_n F.1 F.2.1 nD_X12_54 rfl (lv_at hl 0 rfl) ?_
  refine lv_sipush (v := 1200) F.1 F.2.1 nD_X12_55 (by decide) ?_
  refine n_newI F hH hS (N := 1200) (by decide) (by decide) (by decide) nI_arr (by omega) (by omega) nD_X12_58 (fun q7 H hH hS => ?_)
  have hH : n_H x ((h, .inr (11, [.ref (q1), .ref (q2), .ref (q3), .ref (q4), .int 0, .ref (q5), .int 0, .int 0, .int 0, .ref (q6), .null, .null, .null, .null, .null, .null, .null, .null, .null, .null, .int 0, .int 0, .int 0, .int 0, .int 0, .null, .null, .int 0])) :: ([] ++ [(q1, n_ar x.cI 7)] ++ [(q2, n_ar x.cI 135)] ++ [(q3, n_ar x.cI 135)] ++ [(q4, n_ar x.cI 135)] ++ [(q5, n_ar x.cI 48)] ++ [(q6, n_ar x.cI 3)] ++ [(q7, n_ar x.cI 1200)])) Y H := hH
  refine n_putF F hH hS (C := RX12) (T := TX12) (N := 28) (ci := 11) (v := .ref (q7)) 10 tyX12 ⟨rfl, ingX12, by decide, rfl, rfl, nF_X12_28, tyX12_ok, nmX12⟩ rfl rfl rfl (Nat.le_of_ble_eq_true rfl) nD_X12_60 (fun H locs hH hS => ?_)
  have hH : n_H x ((h, .inr (11, [.ref (q1), .ref (q2), .ref (q3), .ref (q4), .int 0, .ref (q5), .int 0, .int 0, .int 0, .ref (q6), .ref (q7), .null, .null, .null, .null, .null, .null, .null, .null, .null, .int 0, .int 0, .int 0, .int 0, .int 0, .null, .null, .int 0])) :: ([] ++ [(q1, n_ar x.cI 7)] ++ [(q2, n_ar x.cI 135)] ++ [(q3, n_ar x.cI 135)] ++ [(q4, n_ar x.cI 135)] ++ [(q5, n_ar x.cI 48)] ++ [(q6, n_ar x.cI 3)] ++ [(q7, n_ar x.cI 1200)])) Y H := hH
  refine lv_aload_n F.1 F.2.1 nD_X12_63 rfl (lv_at hl 0 rfl) ?_
  refine lv_sipush (v := 1200) F.1 F.2.1 nD_X12_64 (by decide) ?_
  refine n_newI F hH hS (N := 1200) (by decide) (by decide) (by decide) nI_arr (by omega) (by omega) nD_X12_67 (fun q8 H hH hS => ?_)
  have hH : n_H x ((h, .inr (11, [.ref (q1), .ref (q2), .ref (q3), .ref (q4), .int 0, .ref (q5), .int 0, .int 0, .int 0, .ref (q6), .ref (q7), .null, .null, .null, .null, .null, .null, .null, .null, .null, .int 0, .int 0, .int 0, .int 0, .int 0, .null, .null, .int 0])) :: ([] ++ [(q1, n_ar x.cI 7)] ++ [(q2, n_ar x.cI 135)] ++ [(q3, n_ar x.cI 135)] ++ [(q4, n_ar x.cI 135)] ++ [(q5, n_ar x.cI 48)] ++ [(q6, n_ar x.cI 3)] ++ [(q7, n_ar x.cI 1200)] ++ [(q8, n_ar x.cI 1200)])) Y H := hH
  refine n_putF F hH hS (C := RX12) (T := TX12) (N := 28) (ci := 11) (v := .ref (q8)) 11 tyX12 ⟨rfl, ingX12, by decide, rfl, rfl, nF_X12_31, tyX12_ok, nmX12⟩ rfl rfl rfl (Nat.le_of_ble_eq_true rfl) nD_X12_69 (fun H locs hH hS => ?_)
  have hH : n_H x ((h, .inr (11, [.ref (q1), .ref (q2), .ref (q3), .ref (q4), .int 0, .ref (q5), .int 0, .int 0, .int 0, .ref (q6), .ref (q7), .ref (q8), .null, .null, .null, .null, .null, .null, .null, .null, .int 0, .int 0, .int 0, .int 0, .int 0, .null, .null, .int 0])) :: ([] ++ [(q1, n_ar x.cI 7)] ++ [(q2, n_ar x.cI 135)] ++ [(q3, n_ar x.cI 135)] ++ [(q4, n_ar x.cI 135)] ++ [(q5, n_ar x.cI 48)] ++ [(q6, n_ar x.cI 3)] ++ [(q7, n_ar x.cI 1200)] ++ [(q8, n_ar x.cI 1200)])) Y H := hH
  refine lv_aload_n F.1 F.2.1 nD_X12_72 rfl (lv_at hl 0 rfl) ?_
  refine lv_sipush (v := 1200) F.1 F.2.1 nD_X12_73 (by decide) ?_
  refine n_newI F hH hS (N := 1200) (by decide) (by decide) (by decide) nI_arr (by omega) (by omega) nD_X12_76 (fun q9 H hH hS => ?_)
  have hH : n_H x ((h, .inr (11, [.ref (q1), .ref (q2), .ref (q3), .ref (q4), .int 0, .ref (q5), .int 0, .int 0, .int 0, .ref (q6), .ref (q7), .ref (q8), .null, .null, .null, .null, .null, .null, .null, .null, .int 0, .int 0, .int 0, .int 0, .int 0, .null, .null, .int 0])) :: ([] ++ [(q1, n_ar x.cI 7)] ++ [(q2, n_ar x.cI 135)] ++ [(q3, n_ar x.cI 135)] ++ [(q4, n_ar x.cI 135)] ++ [(q5, n_ar x.cI 48)] ++ [(q6, n_ar x.cI 3)] ++ [(q7, n_ar x.cI 1200)] ++ [(q8, n_ar x.cI 1200)] ++ [(q9, n_ar x.cI 1200)])) Y H := hH
  refine n_putF F hH hS (C := RX12) (T := TX12) (N := 28) (ci := 11) (v := .ref (q9)) 12 tyX12 ⟨rfl, ingX12, by decide, rfl, rfl, nF_X12_34, tyX12_ok, nmX12⟩ rfl rfl rfl (Nat.le_of_ble_eq_true rfl) nD_X12_78 (fun H locs hH hS => ?_)
  have hH : n_H x ((h, .inr (11, [.ref (q1), .ref (q2), .ref (q3), .ref (q4), .int 0, .ref (q5), .int 0, .int 0, .int 0, .ref (q6), .ref (q7), .ref (q8), .ref (q9), .null, .null, .null, .null, .null, .null, .null, .int 0, .int 0, .int 0, .int 0, .int 0, .null, .null, .int 0])) :: ([] ++ [(q1, n_ar x.cI 7)] ++ [(q2, n_ar x.cI 135)] ++ [(q3, n_ar x.cI 135)] ++ [(q4, n_ar x.cI 135)] ++ [(q5, n_ar x.cI 48)] ++ [(q6, n_ar x.cI 3)] ++ [(q7, n_ar x.cI 1200)] ++ [(q8, n_ar x.cI 1200)] ++ [(q9, n_ar x.cI 1200)])) Y H := hH
  refine lv_aload_n F.1 F.2.1 nD_X12_81 rfl (lv_at hl 0 rfl) ?_
  refine lv_sipush (v := 1200) F.1 F.2.1 nD_X12_82 (by decide) ?_
  refine n_newI F hH hS (N := 1200) (by decide) (by decide) (by decide) nI_arr (by omega) (by omega) nD_X12_85 (fun q10 H hH hS => ?_)
  have hH : n_H x ((h, .inr (11, [.ref (q1), .ref (q2), .ref (q3), .ref (q4), .int 0, .ref (q5), .int 0, .int 0, .int 0, .ref (q6), .ref (q7), .ref (q8), .ref (q9), .null, .null, .null, .null, .null, .null, .null, .int 0, .int 0, .int 0, .int 0, .int 0, .null, .null, .int 0])) :: ([] ++ [(q1, n_ar x.cI 7)] ++ [(q2, n_ar x.cI 135)] ++ [(q3, n_ar x.cI 135)] ++ [(q4, n_ar x.cI 135)] ++ [(q5, n_ar x.cI 48)] ++ [(q6, n_ar x.cI 3)] ++ [(q7, n_ar x.cI 1200)] ++ [(q8, n_ar x.cI 1200)] ++ [(q9, n_ar x.cI 1200)] ++ [(q10, n_ar x.cI 1200)])) Y H := hH
  refine n_putF F hH hS (C := RX12) (T := TX12) (N := 28) (ci := 11) (v := .ref (q10)) 13 tyX12 ⟨rfl, ingX12, by decide, rfl, rfl, nF_X12_37, tyX12_ok, nmX12⟩ rfl rfl rfl (Nat.le_of_ble_eq_true rfl) nD_X12_87 (fun H locs hH hS => ?_)
  have hH : n_H x ((h, .inr (11, [.ref (q1), .ref (q2), .ref (q3), .ref (q4), .int 0, .ref (q5), .int 0, .int 0, .int 0, .ref (q6), .ref (q7), .ref (q8), .ref (q9), .ref (q10), .null, .null, .null, .null, .null, .null, .int 0, .int 0, .int 0, .int 0, .int 0, .null, .null, .int 0])) :: ([] ++ [(q1, n_ar x.cI 7)] ++ [(q2, n_ar x.cI 135)] ++ [(q3, n_ar x.cI 135)] ++ [(q4, n_ar x.cI 135)] ++ [(q5, n_ar x.cI 48)] ++ [(q6, n_ar x.cI 3)] ++ [(q7, n_ar x.cI 1200)] ++ [(q8, n_ar x.cI 1200)] ++ [(q9, n_ar x.cI 1200)] ++ [(q10, n_ar x.cI 1200)])) Y H := hH
  refine lv_aload_n F.1 F.2.1 nD_X12_90 rfl (lv_at hl 0 rfl) ?_
  refine lv_iconst (v := 3) F.1 F.2.1 nD_X12_91 (by decide) ?_
  refine n_newI F hH hS (N := 3) (by decide) (by decide) (by decide) nI_arr (by omega) (by omega) nD_X12_92 (fun q11 H hH hS => ?_)
  have hH : n_H x ((h, .inr (11, [.ref (q1), .ref (q2), .ref (q3), .ref (q4), .int 0, .ref (q5), .int 0, .int 0, .int 0, .ref (q6), .ref (q7), .ref (q8), .ref (q9), .ref (q10), .null, .null, .null, .null, .null, .null, .int 0, .int 0, .int 0, .int 0, .int 0, .null, .null, .int 0])) :: ([] ++ [(q1, n_ar x.cI 7)] ++ [(q2, n_ar x.cI 135)] ++ [(q3, n_ar x.cI 135)] ++ [(q4, n_ar x.cI 135)] ++ [(q5, n_ar x.cI 48)] ++ [(q6, n_ar x.cI 3)] ++ [(q7, n_ar x.cI 1200)] ++ [(q8, n_ar x.cI 1200)] ++ [(q9, n_ar x.cI 1200)] ++ [(q10, n_ar x.cI 1200)] ++ [(q11, n_ar x.cI 3)])) Y H := hH
  refine n_putF F hH hS (C := RX12) (T := TX12) (N := 28) (ci := 11) (v := .ref (q11)) 14 tyX12 ⟨rfl, ingX12, by decide, rfl, rfl, nF_X12_40, tyX12_ok, nmX12⟩ rfl rfl rfl (Nat.le_of_ble_eq_true rfl) nD_X12_94 (fun H locs hH hS => ?_)
  have hH : n_H x ((h, .inr (11, [.ref (q1), .ref (q2), .ref (q3), .ref (q4), .int 0, .ref (q5), .int 0, .int 0, .int 0, .ref (q6), .ref (q7), .ref (q8), .ref (q9), .ref (q10), .ref (q11), .null, .null, .null, .null, .null, .int 0, .int 0, .int 0, .int 0, .int 0, .null, .null, .int 0])) :: ([] ++ [(q1, n_ar x.cI 7)] ++ [(q2, n_ar x.cI 135)] ++ [(q3, n_ar x.cI 135)] ++ [(q4, n_ar x.cI 135)] ++ [(q5, n_ar x.cI 48)] ++ [(q6, n_ar x.cI 3)] ++ [(q7, n_ar x.cI 1200)] ++ [(q8, n_ar x.cI 1200)] ++ [(q9, n_ar x.cI 1200)] ++ [(q10, n_ar x.cI 1200)] ++ [(q11, n_ar x.cI 3)])) Y H := hH
  refine lv_aload_n F.1 F.2.1 nD_X12_97 rfl (lv_at hl 0 rfl) ?_
  refine lv_iconst (v := 3) F.1 F.2.1 nD_X12_98 (by decide) ?_
  refine n_newI F hH hS (N := 3) (by decide) (by decide) (by decide) nI_arr (by omega) (by omega) nD_X12_99 (fun q12 H hH hS => ?_)
  have hH : n_H x ((h, .inr (11, [.ref (q1), .ref (q2), .ref (q3), .ref (q4), .int 0, .ref (q5), .int 0, .int 0, .int 0, .ref (q6), .ref (q7), .ref (q8), .ref (q9), .ref (q10), .ref (q11), .null, .null, .null, .null, .null, .int 0, .int 0, .int 0, .int 0, .int 0, .null, .null, .int 0])) :: ([] ++ [(q1, n_ar x.cI 7)] ++ [(q2, n_ar x.cI 135)] ++ [(q3, n_ar x.cI 135)] ++ [(q4, n_ar x.cI 135)] ++ [(q5, n_ar x.cI 48)] ++ [(q6, n_ar x.cI 3)] ++ [(q7, n_ar x.cI 1200)] ++ [(q8, n_ar x.cI 1200)] ++ [(q9, n_ar x.cI 1200)] ++ [(q10, n_ar x.cI 1200)] ++ [(q11, n_ar x.cI 3)] ++ [(q12, n_ar x.cI 3)])) Y H := hH
  refine n_putF F hH hS (C := RX12) (T := TX12) (N := 28) (ci := 11) (v := .ref (q12)) 15 tyX12 ⟨rfl, ingX12, by decide, rfl, rfl, nF_X12_43, tyX12_ok, nmX12⟩ rfl rfl rfl (Nat.le_of_ble_eq_true rfl) nD_X12_101 (fun H locs hH hS => ?_)
  have hH : n_H x ((h, .inr (11, [.ref (q1), .ref (q2), .ref (q3), .ref (q4), .int 0, .ref (q5), .int 0, .int 0, .int 0, .ref (q6), .ref (q7), .ref (q8), .ref (q9), .ref (q10), .ref (q11), .ref (q12), .null, .null, .null, .null, .int 0, .int 0, .int 0, .int 0, .int 0, .null, .null, .int 0])) :: ([] ++ [(q1, n_ar x.cI 7)] ++ [(q2, n_ar x.cI 135)] ++ [(q3, n_ar x.cI 135)] ++ [(q4, n_ar x.cI 135)] ++ [(q5, n_ar x.cI 48)] ++ [(q6, n_ar x.cI 3)] ++ [(q7, n_ar x.cI 1200)] ++ [(q8, n_ar x.cI 1200)] ++ [(q9, n_ar x.cI 1200)] ++ [(q10, n_ar x.cI 1200)] ++ [(q11, n_ar x.cI 3)] ++ [(q12, n_ar x.cI 3)])) Y H := hH
  refine lv_aload_n F.1 F.2.1 nD_X12_104 rfl (lv_at hl 0 rfl) ?_
  refine lv_iconst (v := 3) F.1 F.2.1 nD_X12_105 (by decide) ?_
  refine n_newI F hH hS (N := 3) (by decide) (by decide) (by decide) nI_arr (by omega) (by omega) nD_X12_106 (fun q13 H hH hS => ?_)
  have hH : n_H x ((h, .inr (11, [.ref (q1), .ref (q2), .ref (q3), .ref (q4), .int 0, .ref (q5), .int 0, .int 0, .int 0, .ref (q6), .ref (q7), .ref (q8), .ref (q9), .ref (q10), .ref (q11), .ref (q12), .null, .null, .null, .null, .int 0, .int 0, .int 0, .int 0, .int 0, .null, .null, .int 0])) :: ([] ++ [(q1, n_ar x.cI 7)] ++ [(q2, n_ar x.cI 135)] ++ [(q3, n_ar x.cI 135)] ++ [(q4, n_ar x.cI 135)] ++ [(q5, n_ar x.cI 48)] ++ [(q6, n_ar x.cI 3)] ++ [(q7, n_ar x.cI 1200)] ++ [(q8, n_ar x.cI 1200)] ++ [(q9, n_ar x.cI 1200)] ++ [(q10, n_ar x.cI 1200)] ++ [(q11, n_ar x.cI 3)] ++ [(q12, n_ar x.cI 3)] ++ [(q13, n_ar x.cI 3)])) Y H := hH
  refine n_putF F hH hS (C := RX12) (T := TX12) (N := 28) (ci := 11) (v := .ref (q13)) 16 tyX12 ⟨rfl, ingX12, by decide, rfl, rfl, nF_X12_46, tyX12_ok, nmX12⟩ rfl rfl rfl (Nat.le_of_ble_eq_true rfl) nD_X12_108 (fun H locs hH hS => ?_)
  have hH : n_H x ((h, .inr (11, [.ref (q1), .ref (q2), .ref (q3), .ref (q4), .int 0, .ref (q5), .int 0, .int 0, .int 0, .ref (q6), .ref (q7), .ref (q8), .ref (q9), .ref (q10), .ref (q11), .ref (q12), .ref (q13), .null, .null, .null, .int 0, .int 0, .int 0, .int 0, .int 0, .null, .null, .int 0])) :: ([] ++ [(q1, n_ar x.cI 7)] ++ [(q2, n_ar x.cI 135)] ++ [(q3, n_ar x.cI 135)] ++ [(q4, n_ar x.cI 135)] ++ [(q5, n_ar x.cI 48)] ++ [(q6, n_ar x.cI 3)] ++ [(q7, n_ar x.cI 1200)] ++ [(q8, n_ar x.cI 1200)] ++ [(q9, n_ar x.cI 1200)] ++ [(q10, n_ar x.cI 1200)] ++ [(q11, n_ar x.cI 3)] ++ [(q12, n_ar x.cI 3)] ++ [(q13, n_ar x.cI 3)])) Y H := hH
  refine lv_aload_n F.1 F.2.1 nD_X12_111 rfl (lv_at hl 0 rfl) ?_
  refine lv_iconst (v := 3) F.1 F.2.1 nD_X12_112 (by decide) ?_
  refine n_newI F hH hS (N := 3) (by decide) (by decide) (by decide) nI_arr (by omega) (by omega) nD_X12_113 (fun q14 H hH hS => ?_)
  have hH : n_H x ((h, .inr (11, [.ref (q1), .ref (q2), .ref (q3), .ref (q4), .int 0, .ref (q5), .int 0, .int 0, .int 0, .ref (q6), .ref (q7), .ref (q8), .ref (q9), .ref (q10), .ref (q11), .ref (q12), .ref (q13), .null, .null, .null, .int 0, .int 0, .int 0, .int 0, .int 0, .null, .null, .int 0])) :: ([] ++ [(q1, n_ar x.cI 7)] ++ [(q2, n_ar x.cI 135)] ++ [(q3, n_ar x.cI 135)] ++ [(q4, n_ar x.cI 135)] ++ [(q5, n_ar x.cI 48)] ++ [(q6, n_ar x.cI 3)] ++ [(q7, n_ar x.cI 1200)] ++ [(q8, n_ar x.cI 1200)] ++ [(q9, n_ar x.cI 1200)] ++ [(q10, n_ar x.cI 1200)] ++ [(q11, n_ar x.cI 3)] ++ [(q12, n_ar x.cI 3)] ++ [(q13, n_ar x.cI 3)] ++ [(q14, n_ar x.cI 3)])) Y H := hH
  refine n_putF F hH hS (C := RX12) (T := TX12) (N := 28) (ci := 11) (v := .ref (q14)) 17 tyX12 ⟨rfl, ingX12, by decide, rfl, rfl, nF_X12_49, tyX12_ok, nmX12⟩ rfl rfl rfl (Nat.le_of_ble_eq_true rfl) nD_X12_115 (fun H locs hH hS => ?_)
  have hH : n_H x ((h, .inr (11, [.ref (q1), .ref (q2), .ref (q3), .ref (q4), .int 0, .ref (q5), .int 0, .int 0, .int 0, .ref (q6), .ref (q7), .ref (q8), .ref (q9), .ref (q10), .ref (q11), .ref (q12), .ref (q13), .ref (q14), .null, .null, .int 0, .int 0, .int 0, .int 0, .int 0, .null, .null, .int 0])) :: ([] ++ [(q1, n_ar x.cI 7)] ++ [(q2, n_ar x.cI 135)] ++ [(q3, n_ar x.cI 135)] ++ [(q4, n_ar x.cI 135)] ++ [(q5, n_ar x.cI 48)] ++ [(q6, n_ar x.cI 3)] ++ [(q7, n_ar x.cI 1200)] ++ [(q8, n_ar x.cI 1200)] ++ [(q9, n_ar x.cI 1200)] ++ [(q10, n_ar x.cI 1200)] ++ [(q11, n_ar x.cI 3)] ++ [(q12, n_ar x.cI 3)] ++ [(q13, n_ar x.cI 3)] ++ [(q14, n_ar x.cI 3)])) Y H := hH
  refine lv_aload_n F.1 F.2.1 nD_X12_118 rfl (lv_at hl 0 rfl) ?_
  refine lv_bipush (v := 30) F.1 F.2.1 nD_X12_119 (by decide) ?_
  refine n_newI F hH hS (N := 30) (by decide) (by decide) (by decide) nI_arr (by omega) (by omega) nD_X12_121 (fun q15 H hH hS => ?_)
  have hH : n_H x ((h, .inr (11, [.ref (q1), .ref (q2), .ref (q3), .ref (q4), .int 0, .ref (q5), .int 0, .int 0, .int 0, .ref (q6), .ref (q7), .ref (q8), .ref (q9), .ref (q10), .ref (q11), .ref (q12), .ref (q13), .ref (q14), .null, .null, .int 0, .int 0, .int 0, .int 0, .int 0, .null, .null, .int 0])) :: ([] ++ [(q1, n_ar x.cI 7)] ++ [(q2, n_ar x.cI 135)] ++ [(q3, n_ar x.cI 135)] ++ [(q4, n_ar x.cI 135)] ++ [(q5, n_ar x.cI 48)] ++ [(q6, n_ar x.cI 3)] ++ [(q7, n_ar x.cI 1200)] ++ [(q8, n_ar x.cI 1200)] ++ [(q9, n_ar x.cI 1200)] ++ [(q10, n_ar x.cI 1200)] ++ [(q11, n_ar x.cI 3)] ++ [(q12, n_ar x.cI 3)] ++ [(q13, n_ar x.cI 3)] ++ [(q14, n_ar x.cI 3)] ++ [(q15, n_ar x.cI 30)])) Y H := hH
  refine n_putF F hH hS (C := RX12) (T := TX12) (N := 28) (ci := 11) (v := .ref (q15)) 18 tyX12 ⟨rfl, ingX12, by decide, rfl, rfl, nF_X12_52, tyX12_ok, nmX12⟩ rfl rfl rfl (Nat.le_of_ble_eq_true rfl) nD_X12_123 (fun H locs hH hS => ?_)
  have hH : n_H x ((h, .inr (11, [.ref (q1), .ref (q2), .ref (q3), .ref (q4), .int 0, .ref (q5), .int 0, .int 0, .int 0, .ref (q6), .ref (q7), .ref (q8), .ref (q9), .ref (q10), .ref (q11), .ref (q12), .ref (q13), .ref (q14), .ref (q15), .null, .int 0, .int 0, .int 0, .int 0, .int 0, .null, .null, .int 0])) :: ([] ++ [(q1, n_ar x.cI 7)] ++ [(q2, n_ar x.cI 135)] ++ [(q3, n_ar x.cI 135)] ++ [(q4, n_ar x.cI 135)] ++ [(q5, n_ar x.cI 48)] ++ [(q6, n_ar x.cI 3)] ++ [(q7, n_ar x.cI 1200)] ++ [(q8, n_ar x.cI 1200)] ++ [(q9, n_ar x.cI 1200)] ++ [(q10, n_ar x.cI 1200)] ++ [(q11, n_ar x.cI 3)] ++ [(q12, n_ar x.cI 3)] ++ [(q13, n_ar x.cI 3)] ++ [(q14, n_ar x.cI 3)] ++ [(q15, n_ar x.cI 30)])) Y H := hH
  refine lv_aload_n F.1 F.2.1 nD_X12_126 rfl (lv_at hl 0 rfl) ?_
  refine lv_bipush (v := 30) F.1 F.2.1 nD_X12_127 (by decide) ?_
  refine n_newI F hH hS (N := 30) (by decide) (by decide) (by decide) nI_arr (by omega) (by omega) nD_X12_129 (fun q16 H hH hS => ?_)
  have hH : n_H x ((h, .inr (11, [.ref (q1), .ref (q2), .ref (q3), .ref (q4), .int 0, .ref (q5), .int 0, .int 0, .int 0, .ref (q6), .ref (q7), .ref (q8), .ref (q9), .ref (q10), .ref (q11), .ref (q12), .ref (q13), .ref (q14), .ref (q15), .null, .int 0, .int 0, .int 0, .int 0, .int 0, .null, .null, .int 0])) :: ([] ++ [(q1, n_ar x.cI 7)] ++ [(q2, n_ar x.cI 135)] ++ [(q3, n_ar x.cI 135)] ++ [(q4, n_ar x.cI 135)] ++ [(q5, n_ar x.cI 48)] ++ [(q6, n_ar x.cI 3)] ++ [(q7, n_ar x.cI 1200)] ++ [(q8, n_ar x.cI 1200)] ++ [(q9, n_ar x.cI 1200)] ++ [(q10, n_ar x.cI 1200)] ++ [(q11, n_ar x.cI 3)] ++ [(q12, n_ar x.cI 3)] ++ [(q13, n_ar x.cI 3)] ++ [(q14, n_ar x.cI 3)] ++ [(q15, n_ar x.cI 30)] ++ [(q16, n_ar x.cI 30)])) Y H := hH
  refine n_putF F hH hS (C := RX12) (T := TX12) (N := 28) (ci := 11) (v := .ref (q16)) 19 tyX12 ⟨rfl, ingX12, by decide, rfl, rfl, nF_X12_55, tyX12_ok, nmX12⟩ rfl rfl rfl (Nat.le_of_ble_eq_true rfl) nD_X12_131 (fun H locs hH hS => ?_)
  have hH : n_H x ((h, .inr (11, [.ref (q1), .ref (q2), .ref (q3), .ref (q4), .int 0, .ref (q5), .int 0, .int 0, .int 0, .ref (q6), .ref (q7), .ref (q8), .ref (q9), .ref (q10), .ref (q11), .ref (q12), .ref (q13), .ref (q14), .ref (q15), .ref (q16), .int 0, .int 0, .int 0, .int 0, .int 0, .null, .null, .int 0])) :: ([] ++ [(q1, n_ar x.cI 7)] ++ [(q2, n_ar x.cI 135)] ++ [(q3, n_ar x.cI 135)] ++ [(q4, n_ar x.cI 135)] ++ [(q5, n_ar x.cI 48)] ++ [(q6, n_ar x.cI 3)] ++ [(q7, n_ar x.cI 1200)] ++ [(q8, n_ar x.cI 1200)] ++ [(q9, n_ar x.cI 1200)] ++ [(q10, n_ar x.cI 1200)] ++ [(q11, n_ar x.cI 3)] ++ [(q12, n_ar x.cI 3)] ++ [(q13, n_ar x.cI 3)] ++ [(q14, n_ar x.cI 3)] ++ [(q15, n_ar x.cI 30)] ++ [(q16, n_ar x.cI 30)])) Y H := hH
  refine lv_aload_n F.1 F.2.1 nD_X12_134 rfl (lv_at hl 0 rfl) ?_
  refine lv_sipush (v := 135) F.1 F.2.1 nD_X12_135 (by decide) ?_
  refine n_newI F hH hS (N := 135) (by decide) (by decide) (by decide) nI_arr (by omega) (by omega) nD_X12_138 (fun q17 H hH hS => ?_)
  have hH : n_H x ((h, .inr (11, [.ref (q1), .ref (q2), .ref (q3), .ref (q4), .int 0, .ref (q5), .int 0, .int 0, .int 0, .ref (q6), .ref (q7), .ref (q8), .ref (q9), .ref (q10), .ref (q11), .ref (q12), .ref (q13), .ref (q14), .ref (q15), .ref (q16), .int 0, .int 0, .int 0, .int 0, .int 0, .null, .null, .int 0])) :: ([] ++ [(q1, n_ar x.cI 7)] ++ [(q2, n_ar x.cI 135)] ++ [(q3, n_ar x.cI 135)] ++ [(q4, n_ar x.cI 135)] ++ [(q5, n_ar x.cI 48)] ++ [(q6, n_ar x.cI 3)] ++ [(q7, n_ar x.cI 1200)] ++ [(q8, n_ar x.cI 1200)] ++ [(q9, n_ar x.cI 1200)] ++ [(q10, n_ar x.cI 1200)] ++ [(q11, n_ar x.cI 3)] ++ [(q12, n_ar x.cI 3)] ++ [(q13, n_ar x.cI 3)] ++ [(q14, n_ar x.cI 3)] ++ [(q15, n_ar x.cI 30)] ++ [(q16, n_ar x.cI 30)] ++ [(q17, n_ar x.cI 135)])) Y H := hH
  refine n_putF F hH hS (C := RX12) (T := TX12) (N := 28) (ci := 11) (v := .ref (q17)) 25 tyX12 ⟨rfl, ingX12, by decide, rfl, rfl, nF_X12_58, tyX12_ok, nmX12⟩ rfl rfl rfl (Nat.le_of_ble_eq_true rfl) nD_X12_140 (fun H locs hH hS => ?_)
  have hH : n_H x ((h, .inr (11, [.ref (q1), .ref (q2), .ref (q3), .ref (q4), .int 0, .ref (q5), .int 0, .int 0, .int 0, .ref (q6), .ref (q7), .ref (q8), .ref (q9), .ref (q10), .ref (q11), .ref (q12), .ref (q13), .ref (q14), .ref (q15), .ref (q16), .int 0, .int 0, .int 0, .int 0, .int 0, .ref (q17), .null, .int 0])) :: ([] ++ [(q1, n_ar x.cI 7)] ++ [(q2, n_ar x.cI 135)] ++ [(q3, n_ar x.cI 135)] ++ [(q4, n_ar x.cI 135)] ++ [(q5, n_ar x.cI 48)] ++ [(q6, n_ar x.cI 3)] ++ [(q7, n_ar x.cI 1200)] ++ [(q8, n_ar x.cI 1200)] ++ [(q9, n_ar x.cI 1200)] ++ [(q10, n_ar x.cI 1200)] ++ [(q11, n_ar x.cI 3)] ++ [(q12, n_ar x.cI 3)] ++ [(q13, n_ar x.cI 3)] ++ [(q14, n_ar x.cI 3)] ++ [(q15, n_ar x.cI 30)] ++ [(q16, n_ar x.cI 30)] ++ [(q17, n_ar x.cI 135)])) Y H := hH
  refine lv_aload_n F.1 F.2.1 nD_X12_143 rfl (lv_at hl 0 rfl) ?_
  refine lv_iconst (v := 3) F.1 F.2.1 nD_X12_144 (by decide) ?_
  refine n_newI F hH hS (N := 3) (by decide) (by decide) (by decide) nI_arr (by omega) (by omega) nD_X12_145 (fun q18 H hH hS => ?_)
  have hH : n_H x ((h, .inr (11, [.ref (q1), .ref (q2), .ref (q3), .ref (q4), .int 0, .ref (q5), .int 0, .int 0, .int 0, .ref (q6), .ref (q7), .ref (q8), .ref (q9), .ref (q10), .ref (q11), .ref (q12), .ref (q13), .ref (q14), .ref (q15), .ref (q16), .int 0, .int 0, .int 0, .int 0, .int 0, .ref (q17), .null, .int 0])) :: ([] ++ [(q1, n_ar x.cI 7)] ++ [(q2, n_ar x.cI 135)] ++ [(q3, n_ar x.cI 135)] ++ [(q4, n_ar x.cI 135)] ++ [(q5, n_ar x.cI 48)] ++ [(q6, n_ar x.cI 3)] ++ [(q7, n_ar x.cI 1200)] ++ [(q8, n_ar x.cI 1200)] ++ [(q9, n_ar x.cI 1200)] ++ [(q10, n_ar x.cI 1200)] ++ [(q11, n_ar x.cI 3)] ++ [(q12, n_ar x.cI 3)] ++ [(q13, n_ar x.cI 3)] ++ [(q14, n_ar x.cI 3)] ++ [(q15, n_ar x.cI 30)] ++ [(q16, n_ar x.cI 30)] ++ [(q17, n_ar x.cI 135)] ++ [(q18, n_ar x.cI 3)])) Y H := hH
  refine n_putF F hH hS (C := RX12) (T := TX12) (N := 28) (ci := 11) (v := .ref (q18)) 26 tyX12 ⟨rfl, ingX12, by decide, rfl, rfl, nF_X12_61, tyX12_ok, nmX12⟩ rfl rfl rfl (Nat.le_of_ble_eq_true rfl) nD_X12_147 (fun H locs hH hS => ?_)
  have hH : n_H x ((h, .inr (11, [.ref (q1), .ref (q2), .ref (q3), .ref (q4), .int 0, .ref (q5), .int 0, .int 0, .int 0, .ref (q6), .ref (q7), .ref (q8), .ref (q9), .ref (q10), .ref (q11), .ref (q12), .ref (q13), .ref (q14), .ref (q15), .ref (q16), .int 0, .int 0, .int 0, .int 0, .int 0, .ref (q17), .ref (q18), .int 0])) :: ([] ++ [(q1, n_ar x.cI 7)] ++ [(q2, n_ar x.cI 135)] ++ [(q3, n_ar x.cI 135)] ++ [(q4, n_ar x.cI 135)] ++ [(q5, n_ar x.cI 48)] ++ [(q6, n_ar x.cI 3)] ++ [(q7, n_ar x.cI 1200)] ++ [(q8, n_ar x.cI 1200)] ++ [(q9, n_ar x.cI 1200)] ++ [(q10, n_ar x.cI 1200)] ++ [(q11, n_ar x.cI 3)] ++ [(q12, n_ar x.cI 3)] ++ [(q13, n_ar x.cI 3)] ++ [(q14, n_ar x.cI 3)] ++ [(q15, n_ar x.cI 30)] ++ [(q16, n_ar x.cI 30)] ++ [(q17, n_ar x.cI 135)] ++ [(q18, n_ar x.cI 3)])) Y H := hH
  refine W.widen (k := 18) (n := 5473) (by omega) (by omega) ?_
  exact kk (fun k => [q1, q2, q3, q4, q5, q6, q7, q8, q9, q10, q11, q12, q13, q14, q15, q16, q17, q18].getD k 0) _ _ _ _ hH hS nD_X12_150
theorem nD_X11_0 : decode prog_1_method_1_code 0 = .ok (.aload_n 0, 1) := by decide +kernel
theorem nD_X11_1 : decode prog_1_method_1_code 1 = .ok (.invokespecial 1, 3) := by decide +kernel
theorem nD_X11_4 : decode prog_1_method_1_code 4 = .ok (.aload_n 0, 1) := by decide +kernel
theorem nD_X11_5 : decode prog_1_method_1_code 5 = .ok (.bipush 48, 2) := by decide +kernel
theorem nD_X11_7 : decode prog_1_method_1_code 7 = .ok (.newarray .int, 2) := by decide +kernel
theorem nD_X11_9 : decode prog_1_method_1_code 9 = .ok (.putfield 9, 3) := by decide +kernel
theorem nD_X11_12 : decode prog_1_method_1_code 12 = .ok (.aload_n 0, 1) := by decide +kernel
theorem nD_X11_13 : decode prog_1_method_1_code 13 = .ok (.bipush 7, 2) := by decide +kernel
theorem nD_X11_15 : decode prog_1_method_1_code 15 = .ok (.newarray .int, 2) := by decide +kernel
theorem nD_X11_17 : decode prog_1_method_1_code 17 = .ok (.putfield 13, 3) := by decide +kernel
theorem nD_X11_20 : decode prog_1_method_1_code 20 = .ok (.aload_n 0, 1) := by decide +kernel
theorem nD_X11_21 : decode prog_1_method_1_code 21 = .ok (.new 16, 3) := by decide +kernel
theorem nD_X11_24 : decode prog_1_method_1_code 24 = .ok (.dup, 1) := by decide +kernel
theorem nD_X11_25 : decode prog_1_method_1_code 25 = .ok (.invokespecial 18, 3) := by decide +kernel
theorem nD_X11_28 : decode prog_1_method_1_code 28 = .ok (.putfield 19, 3) := by decide +kernel
theorem nD_X11_31 : decode prog_1_method_1_code 31 = .ok (.aload_n 0, 1) := by decide +kernel
theorem nD_X11_32 : decode prog_1_method_1_code 32 = .ok (.new 23, 3) := by decide +kernel
theorem nD_X11_35 : decode prog_1_method_1_code 35 = .ok (.dup, 1) := by decide +kernel
theorem nD_X11_36 : decode prog_1_method_1_code 36 = .ok (.invokespecial 25, 3) := by decide +kernel
theorem nD_X11_39 : decode prog_1_method_1_code 39 = .ok (.putfield 26, 3) := by decide +kernel
theorem nD_X11_42 : decode prog_1_method_1_code 42 = .ok (.aload_n 0, 1) := by decide +kernel
theorem nD_X11_43 : decode prog_1_method_1_code 43 = .ok (.new 23, 3) := by decide +kernel
theorem nD_X11_46 : decode prog_1_method_1_code 46 = .ok (.dup, 1) := by decide +kernel
theorem nD_X11_47 : decode prog_1_method_1_code 47 = .ok (.invokespecial 25, 3) := by decide +kernel
theorem nD_X11_50 : decode prog_1_method_1_code 50 = .ok (.putfield 30, 3) := by decide +kernel
theorem nD_X11_53 : decode prog_1_method_1_code 53 = .ok (.aload_n 0, 1) := by decide +kernel
theorem nD_X11_54 : decode prog_1_method_1_code 54 = .ok (.iconst 5, 1) := by decide +kernel
theorem nD_X11_55 : decode prog_1_method_1_code 55 = .ok (.anewarray 33, 3) := by decide +kernel
theorem nD_X11_58 : decode prog_1_method_1_code 58 = .ok (.dup, 1) := by decide +kernel
theorem nD_X11_59 : decode prog_1_method_1_code 59 = .ok (.iconst 0, 1) := by decide +kernel
theorem nD_X11_60 : decode prog_1_method_1_code 60 = .ok (.new 35, 3) := by decide +kernel
theorem nD_X11_63 : decode prog_1_method_1_code 63 = .ok (.dup, 1) := by decide +kernel
theorem nD_X11_64 : decode prog_1_method_1_code 64 = .ok (.invokespecial 37, 3) := by decide +kernel
theorem nD_X11_67 : decode prog_1_method_1_code 67 = .ok (.aastore, 1) := by decide +kernel
theorem nD_X11_68 : decode prog_1_method_1_code 68 = .ok (.dup, 1) := by decide +kernel
theorem nD_X11_69 : decode prog_1_method_1_code 69 = .ok (.iconst 1, 1) := by decide +kernel
theorem nD_X11_70 : decode prog_1_method_1_code 70 = .ok (.new 38, 3) := by decide +kernel
theorem nD_X11_73 : decode prog_1_method_1_code 73 = .ok (.dup, 1) := by decide +kernel
theorem nD_X11_74 : decode prog_1_method_1_code 74 = .ok (.invokespecial 40, 3) := by decide +kernel
theorem nD_X11_77 : decode prog_1_method_1_code 77 = .ok (.aastore, 1) := by decide +kernel
theorem nD_X11_78 : decode prog_1_method_1_code 78 = .ok (.dup, 1) := by decide +kernel
theorem nD_X11_79 : decode prog_1_method_1_code 79 = .ok (.iconst 2, 1) := by decide +kernel
theorem nD_X11_80 : decode prog_1_method_1_code 80 = .ok (.new 41, 3) := by decide +kernel
theorem nD_X11_83 : decode prog_1_method_1_code 83 = .ok (.dup, 1) := by decide +kernel
theorem nD_X11_84 : decode prog_1_method_1_code 84 = .ok (.invokespecial 43, 3) := by decide +kernel
theorem nD_X11_87 : decode prog_1_method_1_code 87 = .ok (.aastore, 1) := by decide +kernel
theorem nD_X11_88 : decode prog_1_method_1_code 88 = .ok (.dup, 1) := by decide +kernel
theorem nD_X11_89 : decode prog_1_method_1_code 89 = .ok (.iconst 3, 1) := by decide +kernel
theorem nD_X11_90 : decode prog_1_method_1_code 90 = .ok (.new 44, 3) := by decide +kernel
theorem nD_X11_93 : decode prog_1_method_1_code 93 = .ok (.dup, 1) := by decide +kernel
theorem nD_X11_94 : decode prog_1_method_1_code 94 = .ok (.invokespecial 46, 3) := by decide +kernel
theorem nD_X11_97 : decode prog_1_method_1_code 97 = .ok (.aastore, 1) := by decide +kernel
theorem nD_X11_98 : decode prog_1_method_1_code 98 = .ok (.dup, 1) := by decide +kernel
theorem nD_X11_99 : decode prog_1_method_1_code 99 = .ok (.iconst 4, 1) := by decide +kernel
theorem nD_X11_100 : decode prog_1_method_1_code 100 = .ok (.new 47, 3) := by decide +kernel
theorem nD_X11_103 : decode prog_1_method_1_code 103 = .ok (.dup, 1) := by decide +kernel
theorem nD_X11_104 : decode prog_1_method_1_code 104 = .ok (.invokespecial 49, 3) := by decide +kernel
theorem nD_X11_107 : decode prog_1_method_1_code 107 = .ok (.aastore, 1) := by decide +kernel
theorem nD_X11_108 : decode prog_1_method_1_code 108 = .ok (.putfield 50, 3) := by decide +kernel
theorem nD_X11_111 : decode prog_1_method_1_code 111 = .ok (.aload_n 0, 1) := by decide +kernel
theorem nD_X11_112 : decode prog_1_method_1_code 112 = .ok (.iconst (-1), 1) := by decide +kernel
theorem nD_X11_113 : decode prog_1_method_1_code 113 = .ok (.putfield 54, 3) := by decide +kernel
theorem nD_X11_116 : decode prog_1_method_1_code 116 = .ok (.aload_n 0, 1) := by decide +kernel
theorem nD_X11_117 : decode prog_1_method_1_code 117 = .ok (.iconst (-1), 1) := by decide +kernel
theorem nD_X11_118 : decode prog_1_method_1_code 118 = .ok (.putfield 58, 3) := by decide +kernel
theorem nD_X11_121 : decode prog_1_method_1_code 121 = .ok (.aload_n 0, 1) := by decide +kernel
theorem nD_X11_122 : decode prog_1_method_1_code 122 = .ok (.new 61, 3) := by decide +kernel
theorem nD_X11_125 : decode prog_1_method_1_code 125 = .ok (.dup, 1) := by decide +kernel
theorem nD_X11_126 : decode prog_1_method_1_code 126 = .ok (.aload_n 0, 1) := by decide +kernel
theorem nD_X11_127 : decode prog_1_method_1_code 127 = .ok (.getfield 26, 3) := by decide +kernel
theorem nD_X11_130 : decode prog_1_method_1_code 130 = .ok (.getfield 63, 3) := by decide +kernel
theorem nD_X11_133 : decode prog_1_method_1_code 133 = .ok (.invokespecial 66, 3) := by decide +kernel
theorem nD_X11_136 : decode prog_1_method_1_code 136 = .ok (.putfield 69, 3) := by decide +kernel
theorem nD_X11_139 : decode prog_1_method_1_code 139 = .ok (.aload_n 0, 1) := by decide +kernel
theorem nD_X11_140 : decode prog_1_method_1_code 140 = .ok (.new 61, 3) := by decide +kernel
theorem nD_X11_143 : decode prog_1_method_1_code 143 = .ok (.dup, 1) := by decide +kernel
theorem nD_X11_144 : decode prog_1_method_1_code 144 = .ok (.aload_n 0, 1) := by decide +kernel
theorem nD_X11_145 : decode prog_1_method_1_code 145 = .ok (.getfield 26, 3) := by decide +kernel
theorem nD_X11_148 : decode prog_1_method_1_code 148 = .ok (.getfield 63, 3) := by decide +kernel
theorem nD_X11_151 : decode prog_1_method_1_code 151 = .ok (.invokespecial 66, 3) := by decide +kernel
theorem nD_X11_154 : decode prog_1_method_1_code 154 = .ok (.putfield 73, 3) := by decide +kernel
theorem nD_X11_157 : decode prog_1_method_1_code 157 = .ok (.aload_n 0, 1) := by decide +kernel
theorem nD_X11_158 : decode prog_1_method_1_code 158 = .ok (.new 76, 3) := by decide +kernel
theorem nD_X11_161 : decode prog_1_method_1_code 161 = .ok (.dup, 1) := by decide +kernel
theorem nD_X11_162 : decode prog_1_method_1_code 162 = .ok (.aload_n 0, 1) := by decide +kernel
theorem nD_X11_163 : decode prog_1_method_1_code 163 = .ok (.getfield 26, 3) := by decide +kernel
theorem nD_X11_166 : decode prog_1_method_1_code 166 = .ok (.getfield 63, 3) := by decide +kernel
theorem nD_X11_169 : decode prog_1_method_1_code 169 = .ok (.aload_n 0, 1) := by decide +kernel
theorem nD_X11_170 : decode prog_1_method_1_code 170 = .ok (.getfield 69, 3) := by decide +kernel
theorem nD_X11_173 : decode prog_1_method_1_code 173 = .ok (.invokespecial 78, 3) := by decide +kernel
theorem nD_X11_176 : decode prog_1_method_1_code 176 = .ok (.putfield 81, 3) := by decide +kernel
theorem nD_X11_179 : decode prog_1_method_1_code 179 = .ok (.aload_n 0, 1) := by decide +kernel
theorem nD_X11_180 : decode prog_1_method_1_code 180 = .ok (.new 85, 3) := by decide +kernel
theorem nD_X11_183 : decode prog_1_method_1_code 183 = .ok (.dup, 1) := by decide +kernel
theorem nD_X11_184 : decode prog_1_method_1_code 184 = .ok (.aload_n 0, 1) := by decide +kernel
theorem nD_X11_185 : decode prog_1_method_1_code 185 = .ok (.getfield 69, 3) := by decide +kernel
theorem nD_X11_188 : decode prog_1_method_1_code 188 = .ok (.invokespecial 87, 3) := by decide +kernel
theorem nD_X11_191 : decode prog_1_method_1_code 191 = .ok (.putfield 90, 3) := by decide +kernel
theorem nD_X11_194 : decode prog_1_method_1_code 194 = .ok (.aload_n 0, 1) := by decide +kernel
theorem nD_X11_195 : decode prog_1_method_1_code 195 = .ok (.new 85, 3) := by decide +kernel
theorem nD_X11_198 : decode prog_1_method_1_code 198 = .ok (.dup, 1) := by decide +kernel
theorem nD_X11_199 : decode prog_1_method_1_code 199 = .ok (.aload_n 0, 1) := by decide +kernel
theorem nD_X11_200 : decode prog_1_method_1_code 200 = .ok (.getfield 69, 3) := by decide +kernel
theorem nD_X11_203 : decode prog_1_method_1_code 203 = .ok (.invokespecial 87, 3) := by decide +kernel
theorem nD_X11_206 : decode prog_1_method_1_code 206 = .ok (.putfield 94, 3) := by decide +kernel
theorem nD_X11_209 : decode prog_1_method_1_code 209 = .ok (.aload_n 0, 1) := by decide +kernel
theorem nD_X11_210 : decode prog_1_method_1_code 210 = .ok (.new 85, 3) := by decide +kernel
theorem nD_X11_213 : decode prog_1_method_1_code 213 = .ok (.dup, 1) := by decide +kernel
theorem nD_X11_214 : decode prog_1_method_1_code 214 = .ok (.aload_n 0, 1) := by decide +kernel
theorem nD_X11_215 : decode prog_1_method_1_code 215 = .ok (.getfield 73, 3) := by decide +kernel
theorem nD_X11_218 : decode prog_1_method_1_code 218 = .ok (.invokespecial 87, 3) := by decide +kernel
theorem nD_X11_221 : decode prog_1_method_1_code 221 = .ok (.putfield 97, 3) := by decide +kernel
theorem nD_X11_224 : decode prog_1_method_1_code 224 = .ok (.return_, 1) := by decide +kernel
theorem nO_X11 : Cond.methodLink "NeverCross" 1 Lib.objectInit ∈ goodTbl := q_in 78 (by decide +kernel) rfl
theorem nF_X11_9 : Cond.fieldLink "NeverCross" 9 "NeverCross" "letters" "[I" ∈ goodTbl := q_in 320 (by decide +kernel) rfl
theorem nF_X11_13 : Cond.fieldLink "NeverCross" 13 "NeverCross" "refusals" "[I" ∈ goodTbl := q_in 322 (by decide +kernel) rfl
theorem nC_X11_16 : Cond.classLink "NeverCross" 16 "NeverCross$Slope" ∈ goodTbl := q_in 81 (by decide +kernel) rfl
theorem nF_X11_19 : Cond.fieldLink "NeverCross" 19 "NeverCross" "draft" "LNeverCross$Slope;" ∈ goodTbl := q_in 323 (by decide +kernel) rfl
theorem nC_X11_23 : Cond.classLink "NeverCross" 23 "NeverCross$Held" ∈ goodTbl := q_in 141 (by decide +kernel) rfl
theorem nN_X2 : Cond.instantiable "NeverCross$Held" 8 ∈ goodTbl := q_in 142 (by decide +kernel) rfl
theorem nZ_X2 : Cond.initialized "NeverCross$Held" ∈ goodTbl := q_in 58 (by decide +kernel) rfl
theorem nM_X2 : Cond.instanceMethod ⟨"NeverCross$Held", "<init>", "()V"⟩ ∈ goodTbl := q_in 144 (by decide +kernel) rfl
theorem nB_X2 : Cond.code ⟨"NeverCross$Held", "<init>", "()V"⟩ prog_4_method_1_code 1 none ∈ goodTbl := q_in 145 (by decide +kernel) rfl
theorem nF_X11_26 : Cond.fieldLink "NeverCross" 26 "NeverCross" "now" "LNeverCross$Held;" ∈ goodTbl := q_in 324 (by decide +kernel) rfl
theorem nF_X11_30 : Cond.fieldLink "NeverCross" 30 "NeverCross" "kept" "LNeverCross$Held;" ∈ goodTbl := q_in 325 (by decide +kernel) rfl
theorem nC_X11_33 : Cond.classLink "NeverCross" 33 "NeverCross$Law" ∈ goodTbl := q_in 184 (by decide +kernel) rfl
theorem nC_X11_35 : Cond.classLink "NeverCross" 35 "NeverCross$Own" ∈ goodTbl := q_in 186 (by decide +kernel) rfl
theorem nN_X5 : Cond.instantiable "NeverCross$Own" 0 ∈ goodTbl := q_in 187 (by decide +kernel) rfl
theorem nC_X11_38 : Cond.classLink "NeverCross" 38 "NeverCross$Turned" ∈ goodTbl := q_in 196 (by decide +kernel) rfl
theorem nN_X9 : Cond.instantiable "NeverCross$Turned" 0 ∈ goodTbl := q_in 197 (by decide +kernel) rfl
theorem nZ_X9 : Cond.initialized "NeverCross$Turned" ∈ goodTbl := q_in 61 (by decide +kernel) rfl
theorem nM_X9 : Cond.instanceMethod ⟨"NeverCross$Turned", "<init>", "()V"⟩ ∈ goodTbl := q_in 199 (by decide +kernel) rfl
theorem nB_X9 : Cond.code ⟨"NeverCross$Turned", "<init>", "()V"⟩ prog_11_method_1_code 1 none ∈ goodTbl := q_in 200 (by decide +kernel) rfl
theorem nC_X11_41 : Cond.classLink "NeverCross" 41 "NeverCross$Next" ∈ goodTbl := q_in 203 (by decide +kernel) rfl
theorem nN_X4 : Cond.instantiable "NeverCross$Next" 0 ∈ goodTbl := q_in 204 (by decide +kernel) rfl
theorem nZ_X4 : Cond.initialized "NeverCross$Next" ∈ goodTbl := q_in 62 (by decide +kernel) rfl
theorem nM_X4 : Cond.instanceMethod ⟨"NeverCross$Next", "<init>", "()V"⟩ ∈ goodTbl := q_in 206 (by decide +kernel) rfl
theorem nB_X4 : Cond.code ⟨"NeverCross$Next", "<init>", "()V"⟩ prog_6_method_1_code 1 none ∈ goodTbl := q_in 207 (by decide +kernel) rfl
theorem nC_X11_44 : Cond.classLink "NeverCross" 44 "NeverCross$Any" ∈ goodTbl := q_in 210 (by decide +kernel) rfl
theorem nN_X0 : Cond.instantiable "NeverCross$Any" 0 ∈ goodTbl := q_in 211 (by decide +kernel) rfl
theorem nZ_X0 : Cond.initialized "NeverCross$Any" ∈ goodTbl := q_in 63 (by decide +kernel) rfl
theorem nM_X0 : Cond.instanceMethod ⟨"NeverCross$Any", "<init>", "()V"⟩ ∈ goodTbl := q_in 213 (by decide +kernel) rfl
theorem nB_X0 : Cond.code ⟨"NeverCross$Any", "<init>", "()V"⟩ prog_2_method_1_code 1 none ∈ goodTbl := q_in 214 (by decide +kernel) rfl
theorem nC_X11_47 : Cond.classLink "NeverCross" 47 "NeverCross$Told" ∈ goodTbl := q_in 217 (by decide +kernel) rfl
theorem nN_X8 : Cond.instantiable "NeverCross$Told" 0 ∈ goodTbl := q_in 218 (by decide +kernel) rfl
theorem nZ_X8 : Cond.initialized "NeverCross$Told" ∈ goodTbl := q_in 64 (by decide +kernel) rfl
theorem nM_X8 : Cond.instanceMethod ⟨"NeverCross$Told", "<init>", "()V"⟩ ∈ goodTbl := q_in 220 (by decide +kernel) rfl
theorem nB_X8 : Cond.code ⟨"NeverCross$Told", "<init>", "()V"⟩ prog_10_method_1_code 1 none ∈ goodTbl := q_in 221 (by decide +kernel) rfl
theorem nF_X11_50 : Cond.fieldLink "NeverCross" 50 "NeverCross" "laws" "[LNeverCross$Law;" ∈ goodTbl := q_in 327 (by decide +kernel) rfl
theorem nF_X11_54 : Cond.fieldLink "NeverCross" 54 "NeverCross" "slopeStudied" "I" ∈ goodTbl := q_in 335 (by decide +kernel) rfl
theorem nF_X11_58 : Cond.fieldLink "NeverCross" 58 "NeverCross" "rankHeld" "I" ∈ goodTbl := q_in 336 (by decide +kernel) rfl
theorem nC_X11_61 : Cond.classLink "NeverCross" 61 "NeverCross$Ways" ∈ goodTbl := q_in 224 (by decide +kernel) rfl
theorem nN_X10 : Cond.instantiable "NeverCross$Ways" 5 ∈ goodTbl := q_in 225 (by decide +kernel) rfl
theorem nZ_X10 : Cond.initialized "NeverCross$Ways" ∈ goodTbl := q_in 65 (by decide +kernel) rfl
theorem nF_X11_63 : Cond.fieldLink "NeverCross" 63 "NeverCross$Held" "slope" "LNeverCross$Slope;" ∈ goodTbl := q_in 152 (by decide +kernel) rfl
theorem nM_X10 : Cond.instanceMethod ⟨"NeverCross$Ways", "<init>", "(LNeverCross$Slope;)V"⟩ ∈ goodTbl := q_in 227 (by decide +kernel) rfl
theorem nB_X10 : Cond.code ⟨"NeverCross$Ways", "<init>", "(LNeverCross$Slope;)V"⟩ prog_12_method_1_code 2 none ∈ goodTbl := q_in 228 (by decide +kernel) rfl
theorem nL_X11_66 : Cond.methodLink "NeverCross" 66 ⟨"NeverCross$Ways", "<init>", "(LNeverCross$Slope;)V"⟩ ∈ goodTbl := q_in 226 (by decide +kernel) rfl
theorem nF_X11_69 : Cond.fieldLink "NeverCross" 69 "NeverCross" "ways" "LNeverCross$Ways;" ∈ goodTbl := q_in 328 (by decide +kernel) rfl
theorem nF_X11_73 : Cond.fieldLink "NeverCross" 73 "NeverCross" "fewWays" "LNeverCross$Ways;" ∈ goodTbl := q_in 329 (by decide +kernel) rfl
theorem nC_X11_76 : Cond.classLink "NeverCross" 76 "NeverCross$Study" ∈ goodTbl := q_in 255 (by decide +kernel) rfl
theorem nN_X7 : Cond.instantiable "NeverCross$Study" 9 ∈ goodTbl := q_in 256 (by decide +kernel) rfl
theorem nZ_X7 : Cond.initialized "NeverCross$Study" ∈ goodTbl := q_in 66 (by decide +kernel) rfl
theorem nM_X7 : Cond.instanceMethod ⟨"NeverCross$Study", "<init>", "(LNeverCross$Slope;LNeverCross$Ways;)V"⟩ ∈ goodTbl := q_in 258 (by decide +kernel) rfl
theorem nB_X7 : Cond.code ⟨"NeverCross$Study", "<init>", "(LNeverCross$Slope;LNeverCross$Ways;)V"⟩ prog_9_method_1_code 3 none ∈ goodTbl := q_in 259 (by decide +kernel) rfl
theorem nL_X11_78 : Cond.methodLink "NeverCross" 78 ⟨"NeverCross$Study", "<init>", "(LNeverCross$Slope;LNeverCross$Ways;)V"⟩ ∈ goodTbl := q_in 257 (by decide +kernel) rfl
theorem nF_X11_81 : Cond.fieldLink "NeverCross" 81 "NeverCross" "study" "LNeverCross$Study;" ∈ goodTbl := q_in 330 (by decide +kernel) rfl
theorem nC_X11_85 : Cond.classLink "NeverCross" 85 "NeverCross$Finder" ∈ goodTbl := q_in 294 (by decide +kernel) rfl
theorem nN_X1 : Cond.instantiable "NeverCross$Finder" 6 ∈ goodTbl := q_in 295 (by decide +kernel) rfl
theorem nZ_X1 : Cond.initialized "NeverCross$Finder" ∈ goodTbl := q_in 67 (by decide +kernel) rfl
theorem nM_X1 : Cond.instanceMethod ⟨"NeverCross$Finder", "<init>", "(LNeverCross$Ways;)V"⟩ ∈ goodTbl := q_in 297 (by decide +kernel) rfl
theorem nB_X1 : Cond.code ⟨"NeverCross$Finder", "<init>", "(LNeverCross$Ways;)V"⟩ prog_3_method_1_code 2 none ∈ goodTbl := q_in 298 (by decide +kernel) rfl
theorem nL_X11_87 : Cond.methodLink "NeverCross" 87 ⟨"NeverCross$Finder", "<init>", "(LNeverCross$Ways;)V"⟩ ∈ goodTbl := q_in 296 (by decide +kernel) rfl
theorem nF_X11_90 : Cond.fieldLink "NeverCross" 90 "NeverCross" "ranked" "LNeverCross$Finder;" ∈ goodTbl := q_in 331 (by decide +kernel) rfl
theorem nF_X11_94 : Cond.fieldLink "NeverCross" 94 "NeverCross" "fitting" "LNeverCross$Finder;" ∈ goodTbl := q_in 332 (by decide +kernel) rfl
theorem nF_X11_97 : Cond.fieldLink "NeverCross" 97 "NeverCross" "fewFound" "LNeverCross$Finder;" ∈ goodTbl := q_in 333 (by decide +kernel) rfl
set_option maxHeartbeats 4000000 in
set_option maxRecDepth 100000 in
theorem n_iX11 (l : Launch) (x : n_Cx) (h : Nat) : n_Met l x ⟨"NeverCross", "<init>", "()V"⟩ prog_1_method_1_code 1 4 96 2734 [.ref h] [(h, .inr (10, [.null, .int 0, .null, .null, .null, .null, .int 0, .null, .null, .null, .null, .null, .null, .null, .int 0, .int 0, .int 0]))] (fun r => n_nc x h r) := by
  refine n_met (by decide +kernel) rfl (Nat.le_of_ble_eq_true rfl) ?_
  intro p e R s m args below meth c H ls Q Y F hH hS hl r1 r2 r3 r4 kk
  have hl : lv_has ls 1 [(0, .ref h)] := hl
  have hH : n_H x [(h, .inr (10, [.null, .int 0, .null, .null, .null, .null, .int 0, .null, .null, .null, .null, .null, .null, .null, .int 0, .int 0, .int 0]))] ([] ++ Y) H := hH
  refine lv_aload_n F.1 F.2.1 nD_X11_0 rfl (lv_at hl 0 rfl) ?_
  refine n_obj F ⟨nO_X11, nI_obji, nI_objc⟩ hl.1 (by omega) nD_X11_1 ?_
  refine lv_aload_n F.1 F.2.1 nD_X11_4 rfl (lv_at hl 0 rfl) ?_
  refine lv_bipush (v := 48) F.1 F.2.1 nD_X11_5 (by decide) ?_
  refine n_newI F hH hS (N := 48) (by decide) (by decide) (by decide) nI_arr (by omega) (by omega) nD_X11_7 (fun q1 H hH hS => ?_)
  have hH : n_H x ((h, .inr (10, [.null, .int 0, .null, .null, .null, .null, .int 0, .null, .null, .null, .null, .null, .null, .null, .int 0, .int 0, .int 0])) :: ([(q1, n_ar x.cI 48)])) ([] ++ Y) H := hH
  refine n_putF F hH hS (C := RX11) (T := TX11) (N := 17) (ci := 10) (v := .ref (q1)) 0 tyX11 ⟨rfl, ingX11, by decide, rfl, rfl, nF_X11_9, tyX11_ok, nmX11⟩ rfl rfl rfl (Nat.le_of_ble_eq_true rfl) nD_X11_9 (fun H locs hH hS => ?_)
  have hH : n_H x ((h, .inr (10, [.ref (q1), .int 0, .null, .null, .null, .null, .int 0, .null, .null, .null, .null, .null, .null, .null, .int 0, .int 0, .int 0])) :: ([(q1, n_ar x.cI 48)])) ([] ++ Y) H := hH
  have hH : n_H x [(h, .inr (10, [.ref (q1), .int 0, .null, .null, .null, .null, .int 0, .null, .null, .null, .null, .null, .null, .null, .int 0, .int 0, .int 0]))] (([] ++ [(q1, n_ar x.cI 48)]) ++ Y) H := n_push hH
  refine lv_aload_n F.1 F.2.1 nD_X11_12 rfl (lv_at hl 0 rfl) ?_
  refine lv_bipush (v := 7) F.1 F.2.1 nD_X11_13 (by decide) ?_
  refine n_newI F hH hS (N := 7) (by decide) (by decide) (by decide) nI_arr (by omega) (by omega) nD_X11_15 (fun q2 H hH hS => ?_)
  have hH : n_H x ((h, .inr (10, [.ref (q1), .int 0, .null, .null, .null, .null, .int 0, .null, .null, .null, .null, .null, .null, .null, .int 0, .int 0, .int 0])) :: ([(q2, n_ar x.cI 7)])) (([] ++ [(q1, n_ar x.cI 48)]) ++ Y) H := hH
  refine n_putF F hH hS (C := RX11) (T := TX11) (N := 17) (ci := 10) (v := .ref (q2)) 2 tyX11 ⟨rfl, ingX11, by decide, rfl, rfl, nF_X11_13, tyX11_ok, nmX11⟩ rfl rfl rfl (Nat.le_of_ble_eq_true rfl) nD_X11_17 (fun H locs hH hS => ?_)
  have hH : n_H x ((h, .inr (10, [.ref (q1), .int 0, .ref (q2), .null, .null, .null, .int 0, .null, .null, .null, .null, .null, .null, .null, .int 0, .int 0, .int 0])) :: ([(q2, n_ar x.cI 7)])) (([] ++ [(q1, n_ar x.cI 48)]) ++ Y) H := hH
  have hH : n_H x [(h, .inr (10, [.ref (q1), .int 0, .ref (q2), .null, .null, .null, .int 0, .null, .null, .null, .null, .null, .null, .null, .int 0, .int 0, .int 0]))] ((([] ++ [(q1, n_ar x.cI 48)]) ++ [(q2, n_ar x.cI 7)]) ++ Y) H := n_push hH
  refine lv_aload_n F.1 F.2.1 nD_X11_20 rfl (lv_at hl 0 rfl) ?_
  refine n_newO F hH hS (C := RX6) (T := TX6) (N := 12) 5 ingX6 tyX6 tyX6_ok ⟨nC_X11_16, nN_X6, nZ_X6⟩ rfl (fs := [.int 0, .int 0, .int 0, .int 0, .int 0, .null, .null, .null, .null, .null, .null, .int 0]) (fun j hj => by rcases (show j = 0 ∨ j = 1 ∨ j = 2 ∨ j = 3 ∨ j = 4 ∨ j = 5 ∨ j = 6 ∨ j = 7 ∨ j = 8 ∨ j = 9 ∨ j = 10 ∨ j = 11 by omega) with rfl | rfl | rfl | rfl | rfl | rfl | rfl | rfl | rfl | rfl | rfl | rfl <;> rfl) (by omega) (by omega) nD_X11_21 (fun q3 H hH hS => ?_)
  have hH : n_H x (([(h, .inr (10, [.ref (q1), .int 0, .ref (q2), .null, .null, .null, .int 0, .null, .null, .null, .null, .null, .null, .null, .int 0, .int 0, .int 0]))]) ++ [(q3, .inr (5, [.int 0, .int 0, .int 0, .int 0, .int 0, .null, .null, .null, .null, .null, .null, .int 0]))]) ((([] ++ [(q1, n_ar x.cI 48)]) ++ [(q2, n_ar x.cI 7)]) ++ Y) H := hH
  refine lv_dup F.1 F.2.1 nD_X11_24 rfl ?_
  refine n_call F (X' := [(h, .inr (10, [.ref (q1), .int 0, .ref (q2), .null, .null, .null, .int 0, .null, .null, .null, .null, .null, .null, .null, .int 0, .int 0, .int 0]))]) (X0 := [(q3, .inr (5, [.int 0, .int 0, .int 0, .int 0, .int 0, .null, .null, .null, .null, .null, .null, .int 0]))]) hH rfl hS (n := 0) (As := []) (rest := [.ref q3, .ref h]) (n_iX6 l x q3) ⟨rfl, by decide, by decide, by decide +kernel⟩ ⟨nM_X6, nZ_X6, nB_X6⟩ (Or.inr (F.2.2.2.2.2.2.2.1.1 ("NeverCross", 18, "NeverCross$Slope") (by decide))) rfl hl.1 rfl (by omega) (Nat.le_of_ble_eq_true rfl) (by omega) nD_X11_25 (fun u4 H locs hH hS => ?_)
  have hH : n_H x ((h, .inr (10, [.ref (q1), .int 0, .ref (q2), .null, .null, .null, .int 0, .null, .null, .null, .null, .null, .null, .null, .int 0, .int 0, .int 0])) :: (n_slope x q3 u4)) ((([] ++ [(q1, n_ar x.cI 48)]) ++ [(q2, n_ar x.cI 7)]) ++ Y) H := hH
  refine n_putF F hH hS (C := RX11) (T := TX11) (N := 17) (ci := 10) (v := .ref (q3)) 3 tyX11 ⟨rfl, ingX11, by decide, rfl, rfl, nF_X11_19, tyX11_ok, nmX11⟩ rfl rfl rfl (Nat.le_of_ble_eq_true rfl) nD_X11_28 (fun H locs hH hS => ?_)
  have hH : n_H x ((h, .inr (10, [.ref (q1), .int 0, .ref (q2), .ref (q3), .null, .null, .int 0, .null, .null, .null, .null, .null, .null, .null, .int 0, .int 0, .int 0])) :: (n_slope x q3 u4)) ((([] ++ [(q1, n_ar x.cI 48)]) ++ [(q2, n_ar x.cI 7)]) ++ Y) H := hH
  have hH : n_H x [(h, .inr (10, [.ref (q1), .int 0, .ref (q2), .ref (q3), .null, .null, .int 0, .null, .null, .null, .null, .null, .null, .null, .int 0, .int 0, .int 0]))] (((([] ++ [(q1, n_ar x.cI 48)]) ++ [(q2, n_ar x.cI 7)]) ++ n_slope x q3 u4) ++ Y) H := n_push hH
  refine lv_aload_n F.1 F.2.1 nD_X11_31 rfl (lv_at hl 0 rfl) ?_
  refine n_newO F hH hS (C := RX2) (T := TX2) (N := 8) 2 ingX2 tyX2 tyX2_ok ⟨nC_X11_23, nN_X2, nZ_X2⟩ rfl (fs := [.null, .int 0, .int 0, .int 0, .int 0, .null, .null, .null]) (fun j hj => by rcases (show j = 0 ∨ j = 1 ∨ j = 2 ∨ j = 3 ∨ j = 4 ∨ j = 5 ∨ j = 6 ∨ j = 7 by omega) with rfl | rfl | rfl | rfl | rfl | rfl | rfl | rfl <;> rfl) (by omega) (by omega) nD_X11_32 (fun q5 H hH hS => ?_)
  have hH : n_H x (([(h, .inr (10, [.ref (q1), .int 0, .ref (q2), .ref (q3), .null, .null, .int 0, .null, .null, .null, .null, .null, .null, .null, .int 0, .int 0, .int 0]))]) ++ [(q5, .inr (2, [.null, .int 0, .int 0, .int 0, .int 0, .null, .null, .null]))]) (((([] ++ [(q1, n_ar x.cI 48)]) ++ [(q2, n_ar x.cI 7)]) ++ n_slope x q3 u4) ++ Y) H := hH
  refine lv_dup F.1 F.2.1 nD_X11_35 rfl ?_
  refine n_call F (X' := [(h, .inr (10, [.ref (q1), .int 0, .ref (q2), .ref (q3), .null, .null, .int 0, .null, .null, .null, .null, .null, .null, .null, .int 0, .int 0, .int 0]))]) (X0 := [(q5, .inr (2, [.null, .int 0, .int 0, .int 0, .int 0, .null, .null, .null]))]) hH rfl hS (n := 0) (As := []) (rest := [.ref q5, .ref h]) (n_iX2 l x q5) ⟨rfl, by decide, by decide, by decide +kernel⟩ ⟨nM_X2, nZ_X2, nB_X2⟩ (Or.inr (F.2.2.2.2.2.2.2.1.1 ("NeverCross", 25, "NeverCross$Held") (by decide))) rfl hl.1 rfl (by omega) (Nat.le_of_ble_eq_true rfl) (by omega) nD_X11_36 (fun u6 H locs hH hS => ?_)
  have hH : n_H x ((h, .inr (10, [.ref (q1), .int 0, .ref (q2), .ref (q3), .null, .null, .int 0, .null, .null, .null, .null, .null, .null, .null, .int 0, .int 0, .int 0])) :: (n_held x q5 u6)) (((([] ++ [(q1, n_ar x.cI 48)]) ++ [(q2, n_ar x.cI 7)]) ++ n_slope x q3 u4) ++ Y) H := hH
  refine n_putF F hH hS (C := RX11) (T := TX11) (N := 17) (ci := 10) (v := .ref (q5)) 4 tyX11 ⟨rfl, ingX11, by decide, rfl, rfl, nF_X11_26, tyX11_ok, nmX11⟩ rfl rfl rfl (Nat.le_of_ble_eq_true rfl) nD_X11_39 (fun H locs hH hS => ?_)
  have hH : n_H x ((h, .inr (10, [.ref (q1), .int 0, .ref (q2), .ref (q3), .ref (q5), .null, .int 0, .null, .null, .null, .null, .null, .null, .null, .int 0, .int 0, .int 0])) :: (n_held x q5 u6)) (((([] ++ [(q1, n_ar x.cI 48)]) ++ [(q2, n_ar x.cI 7)]) ++ n_slope x q3 u4) ++ Y) H := hH
  have hH : n_H x [(h, .inr (10, [.ref (q1), .int 0, .ref (q2), .ref (q3), .ref (q5), .null, .int 0, .null, .null, .null, .null, .null, .null, .null, .int 0, .int 0, .int 0]))] ((((([] ++ [(q1, n_ar x.cI 48)]) ++ [(q2, n_ar x.cI 7)]) ++ n_slope x q3 u4) ++ n_held x q5 u6) ++ Y) H := n_push hH
  refine lv_aload_n F.1 F.2.1 nD_X11_42 rfl (lv_at hl 0 rfl) ?_
  refine n_newO F hH hS (C := RX2) (T := TX2) (N := 8) 2 ingX2 tyX2 tyX2_ok ⟨nC_X11_23, nN_X2, nZ_X2⟩ rfl (fs := [.null, .int 0, .int 0, .int 0, .int 0, .null, .null, .null]) (fun j hj => by rcases (show j = 0 ∨ j = 1 ∨ j = 2 ∨ j = 3 ∨ j = 4 ∨ j = 5 ∨ j = 6 ∨ j = 7 by omega) with rfl | rfl | rfl | rfl | rfl | rfl | rfl | rfl <;> rfl) (by omega) (by omega) nD_X11_43 (fun q7 H hH hS => ?_)
  have hH : n_H x (([(h, .inr (10, [.ref (q1), .int 0, .ref (q2), .ref (q3), .ref (q5), .null, .int 0, .null, .null, .null, .null, .null, .null, .null, .int 0, .int 0, .int 0]))]) ++ [(q7, .inr (2, [.null, .int 0, .int 0, .int 0, .int 0, .null, .null, .null]))]) ((((([] ++ [(q1, n_ar x.cI 48)]) ++ [(q2, n_ar x.cI 7)]) ++ n_slope x q3 u4) ++ n_held x q5 u6) ++ Y) H := hH
  refine lv_dup F.1 F.2.1 nD_X11_46 rfl ?_
  refine n_call F (X' := [(h, .inr (10, [.ref (q1), .int 0, .ref (q2), .ref (q3), .ref (q5), .null, .int 0, .null, .null, .null, .null, .null, .null, .null, .int 0, .int 0, .int 0]))]) (X0 := [(q7, .inr (2, [.null, .int 0, .int 0, .int 0, .int 0, .null, .null, .null]))]) hH rfl hS (n := 0) (As := []) (rest := [.ref q7, .ref h]) (n_iX2 l x q7) ⟨rfl, by decide, by decide, by decide +kernel⟩ ⟨nM_X2, nZ_X2, nB_X2⟩ (Or.inr (F.2.2.2.2.2.2.2.1.1 ("NeverCross", 25, "NeverCross$Held") (by decide))) rfl hl.1 rfl (by omega) (Nat.le_of_ble_eq_true rfl) (by omega) nD_X11_47 (fun u8 H locs hH hS => ?_)
  have hH : n_H x ((h, .inr (10, [.ref (q1), .int 0, .ref (q2), .ref (q3), .ref (q5), .null, .int 0, .null, .null, .null, .null, .null, .null, .null, .int 0, .int 0, .int 0])) :: (n_held x q7 u8)) ((((([] ++ [(q1, n_ar x.cI 48)]) ++ [(q2, n_ar x.cI 7)]) ++ n_slope x q3 u4) ++ n_held x q5 u6) ++ Y) H := hH
  refine n_putF F hH hS (C := RX11) (T := TX11) (N := 17) (ci := 10) (v := .ref (q7)) 5 tyX11 ⟨rfl, ingX11, by decide, rfl, rfl, nF_X11_30, tyX11_ok, nmX11⟩ rfl rfl rfl (Nat.le_of_ble_eq_true rfl) nD_X11_50 (fun H locs hH hS => ?_)
  have hH : n_H x ((h, .inr (10, [.ref (q1), .int 0, .ref (q2), .ref (q3), .ref (q5), .ref (q7), .int 0, .null, .null, .null, .null, .null, .null, .null, .int 0, .int 0, .int 0])) :: (n_held x q7 u8)) ((((([] ++ [(q1, n_ar x.cI 48)]) ++ [(q2, n_ar x.cI 7)]) ++ n_slope x q3 u4) ++ n_held x q5 u6) ++ Y) H := hH
  have hH : n_H x [(h, .inr (10, [.ref (q1), .int 0, .ref (q2), .ref (q3), .ref (q5), .ref (q7), .int 0, .null, .null, .null, .null, .null, .null, .null, .int 0, .int 0, .int 0]))] (((((([] ++ [(q1, n_ar x.cI 48)]) ++ [(q2, n_ar x.cI 7)]) ++ n_slope x q3 u4) ++ n_held x q5 u6) ++ n_held x q7 u8) ++ Y) H := n_push hH
  refine lv_aload_n F.1 F.2.1 nD_X11_53 rfl (lv_at hl 0 rfl) ?_
  refine lv_iconst (v := 5) F.1 F.2.1 nD_X11_54 (by decide) ?_
  refine n_newL F hH hS (N := 5) (by decide) (by decide) (by decide) nC_X11_33 (by omega) (by omega) nD_X11_55 (fun q9 H hH hS => ?_)
  have hH : n_H x ((h, .inr (10, [.ref (q1), .int 0, .ref (q2), .ref (q3), .ref (q5), .ref (q7), .int 0, .null, .null, .null, .null, .null, .null, .null, .int 0, .int 0, .int 0])) :: ([(q9, .inl (x.cL, 5, .inr (.inr (.inr (.inr (fun _ => none))))))])) (((((([] ++ [(q1, n_ar x.cI 48)]) ++ [(q2, n_ar x.cI 7)]) ++ n_slope x q3 u4) ++ n_held x q5 u6) ++ n_held x q7 u8) ++ Y) H := hH
  refine lv_dup F.1 F.2.1 nD_X11_58 rfl ?_
  refine lv_iconst (v := 0) F.1 F.2.1 nD_X11_59 (by decide) ?_
  refine n_newO F hH hS (C := RX5) (T := TX5) (N := 0) 4 ingX5 tyX5 tyX5_ok ⟨nC_X11_35, nN_X5, nZ_X5⟩ rfl (fs := []) (fun j hj => absurd hj (Nat.not_lt_zero j)) (by omega) (by omega) nD_X11_60 (fun q10 H hH hS => ?_)
  have hH : n_H x (((h, .inr (10, [.ref (q1), .int 0, .ref (q2), .ref (q3), .ref (q5), .ref (q7), .int 0, .null, .null, .null, .null, .null, .null, .null, .int 0, .int 0, .int 0])) :: ([(q9, .inl (x.cL, 5, .inr (.inr (.inr (.inr (fun _ => none))))))])) ++ [(q10, .inr (4, []))]) (((((([] ++ [(q1, n_ar x.cI 48)]) ++ [(q2, n_ar x.cI 7)]) ++ n_slope x q3 u4) ++ n_held x q5 u6) ++ n_held x q7 u8) ++ Y) H := hH
  refine lv_dup F.1 F.2.1 nD_X11_63 rfl ?_
  refine n_call F (X' := (h, .inr (10, [.ref (q1), .int 0, .ref (q2), .ref (q3), .ref (q5), .ref (q7), .int 0, .null, .null, .null, .null, .null, .null, .null, .int 0, .int 0, .int 0])) :: ([(q9, .inl (x.cL, 5, .inr (.inr (.inr (.inr (fun _ => none))))))])) (X0 := [(q10, .inr (4, []))]) hH rfl hS (n := 0) (As := []) (rest := [.ref q10, .int 0, .ref q9, .ref q9, .ref h]) (n_iX5 l x q10 (.inr (4, []))) ⟨rfl, by decide, by decide, by decide +kernel⟩ ⟨nM_X5, nZ_X5, nB_X5⟩ (Or.inr (F.2.2.2.2.2.2.2.1.1 ("NeverCross", 37, "NeverCross$Own") (by decide))) rfl hl.1 rfl (by omega) (Nat.le_of_ble_eq_true rfl) (by omega) nD_X11_64 (fun u11 H locs hH hS => ?_)
  have hH : n_H x ((h, .inr (10, [.ref (q1), .int 0, .ref (q2), .ref (q3), .ref (q5), .ref (q7), .int 0, .null, .null, .null, .null, .null, .null, .null, .int 0, .int 0, .int 0])) :: ([(q9, .inl (x.cL, 5, .inr (.inr (.inr (.inr (fun _ => none))))))] ++ [(q10, .inr (4, []))])) (((((([] ++ [(q1, n_ar x.cI 48)]) ++ [(q2, n_ar x.cI 7)]) ++ n_slope x q3 u4) ++ n_held x q5 u6) ++ n_held x q7 u8) ++ Y) H := hH
  refine n_ast F hH hS 1 2 4 (C := RX5) (T := TX5) rfl rfl rfl (by decide) (by unfold vp_in; decide) nD_X11_67 (fun H locs hH hS => ?_)
  have hH : n_H x ((h, .inr (10, [.ref (q1), .int 0, .ref (q2), .ref (q3), .ref (q5), .ref (q7), .int 0, .null, .null, .null, .null, .null, .null, .null, .int 0, .int 0, .int 0])) :: ([(q9, .inl (x.cL, 5, .inr (.inr (.inr (.inr (va_up (fun _ => none) 0 (some q10)))))))] ++ [(q10, .inr (4, []))])) (((((([] ++ [(q1, n_ar x.cI 48)]) ++ [(q2, n_ar x.cI 7)]) ++ n_slope x q3 u4) ++ n_held x q5 u6) ++ n_held x q7 u8) ++ Y) H := hH
  refine lv_dup F.1 F.2.1 nD_X11_68 rfl ?_
  refine lv_iconst (v := 1) F.1 F.2.1 nD_X11_69 (by decide) ?_
  refine n_newO F hH hS (C := RX9) (T := TX9) (N := 0) 8 ingX9 tyX9 tyX9_ok ⟨nC_X11_38, nN_X9, nZ_X9⟩ rfl (fs := []) (fun j hj => absurd hj (Nat.not_lt_zero j)) (by omega) (by omega) nD_X11_70 (fun q12 H hH hS => ?_)
  have hH : n_H x (((h, .inr (10, [.ref (q1), .int 0, .ref (q2), .ref (q3), .ref (q5), .ref (q7), .int 0, .null, .null, .null, .null, .null, .null, .null, .int 0, .int 0, .int 0])) :: ([(q9, .inl (x.cL, 5, .inr (.inr (.inr (.inr (va_up (fun _ => none) 0 (some q10)))))))] ++ [(q10, .inr (4, []))])) ++ [(q12, .inr (8, []))]) (((((([] ++ [(q1, n_ar x.cI 48)]) ++ [(q2, n_ar x.cI 7)]) ++ n_slope x q3 u4) ++ n_held x q5 u6) ++ n_held x q7 u8) ++ Y) H := hH
  refine lv_dup F.1 F.2.1 nD_X11_73 rfl ?_
  refine n_call F (X' := (h, .inr (10, [.ref (q1), .int 0, .ref (q2), .ref (q3), .ref (q5), .ref (q7), .int 0, .null, .null, .null, .null, .null, .null, .null, .int 0, .int 0, .int 0])) :: ([(q9, .inl (x.cL, 5, .inr (.inr (.inr (.inr (va_up (fun _ => none) 0 (some q10)))))))] ++ [(q10, .inr (4, []))])) (X0 := [(q12, .inr (8, []))]) hH rfl hS (n := 0) (As := []) (rest := [.ref q12, .int 1, .ref q9, .ref q9, .ref h]) (n_iX9 l x q12 (.inr (8, []))) ⟨rfl, by decide, by decide, by decide +kernel⟩ ⟨nM_X9, nZ_X9, nB_X9⟩ (Or.inr (F.2.2.2.2.2.2.2.1.1 ("NeverCross", 40, "NeverCross$Turned") (by decide))) rfl hl.1 rfl (by omega) (Nat.le_of_ble_eq_true rfl) (by omega) nD_X11_74 (fun u13 H locs hH hS => ?_)
  have hH : n_H x ((h, .inr (10, [.ref (q1), .int 0, .ref (q2), .ref (q3), .ref (q5), .ref (q7), .int 0, .null, .null, .null, .null, .null, .null, .null, .int 0, .int 0, .int 0])) :: ([(q9, .inl (x.cL, 5, .inr (.inr (.inr (.inr (va_up (fun _ => none) 0 (some q10)))))))] ++ [(q10, .inr (4, []))] ++ [(q12, .inr (8, []))])) (((((([] ++ [(q1, n_ar x.cI 48)]) ++ [(q2, n_ar x.cI 7)]) ++ n_slope x q3 u4) ++ n_held x q5 u6) ++ n_held x q7 u8) ++ Y) H := hH
  refine n_ast F hH hS 1 3 8 (C := RX9) (T := TX9) rfl rfl rfl (by decide) (by unfold vp_in; decide) nD_X11_77 (fun H locs hH hS => ?_)
  have hH : n_H x ((h, .inr (10, [.ref (q1), .int 0, .ref (q2), .ref (q3), .ref (q5), .ref (q7), .int 0, .null, .null, .null, .null, .null, .null, .null, .int 0, .int 0, .int 0])) :: ([(q9, .inl (x.cL, 5, .inr (.inr (.inr (.inr (va_up (va_up (fun _ => none) 0 (some q10)) 1 (some q12)))))))] ++ [(q10, .inr (4, []))] ++ [(q12, .inr (8, []))])) (((((([] ++ [(q1, n_ar x.cI 48)]) ++ [(q2, n_ar x.cI 7)]) ++ n_slope x q3 u4) ++ n_held x q5 u6) ++ n_held x q7 u8) ++ Y) H := hH
  refine lv_dup F.1 F.2.1 nD_X11_78 rfl ?_
  refine lv_iconst (v := 2) F.1 F.2.1 nD_X11_79 (by decide) ?_
  refine n_newO F hH hS (C := RX4) (T := TX4) (N := 0) 3 ingX4 tyX4 tyX4_ok ⟨nC_X11_41, nN_X4, nZ_X4⟩ rfl (fs := []) (fun j hj => absurd hj (Nat.not_lt_zero j)) (by omega) (by omega) nD_X11_80 (fun q14 H hH hS => ?_)
  have hH : n_H x (((h, .inr (10, [.ref (q1), .int 0, .ref (q2), .ref (q3), .ref (q5), .ref (q7), .int 0, .null, .null, .null, .null, .null, .null, .null, .int 0, .int 0, .int 0])) :: ([(q9, .inl (x.cL, 5, .inr (.inr (.inr (.inr (va_up (va_up (fun _ => none) 0 (some q10)) 1 (some q12)))))))] ++ [(q10, .inr (4, []))] ++ [(q12, .inr (8, []))])) ++ [(q14, .inr (3, []))]) (((((([] ++ [(q1, n_ar x.cI 48)]) ++ [(q2, n_ar x.cI 7)]) ++ n_slope x q3 u4) ++ n_held x q5 u6) ++ n_held x q7 u8) ++ Y) H := hH
  refine lv_dup F.1 F.2.1 nD_X11_83 rfl ?_
  refine n_call F (X' := (h, .inr (10, [.ref (q1), .int 0, .ref (q2), .ref (q3), .ref (q5), .ref (q7), .int 0, .null, .null, .null, .null, .null, .null, .null, .int 0, .int 0, .int 0])) :: ([(q9, .inl (x.cL, 5, .inr (.inr (.inr (.inr (va_up (va_up (fun _ => none) 0 (some q10)) 1 (some q12)))))))] ++ [(q10, .inr (4, []))] ++ [(q12, .inr (8, []))])) (X0 := [(q14, .inr (3, []))]) hH rfl hS (n := 0) (As := []) (rest := [.ref q14, .int 2, .ref q9, .ref q9, .ref h]) (n_iX4 l x q14 (.inr (3, []))) ⟨rfl, by decide, by decide, by decide +kernel⟩ ⟨nM_X4, nZ_X4, nB_X4⟩ (Or.inr (F.2.2.2.2.2.2.2.1.1 ("NeverCross", 43, "NeverCross$Next") (by decide))) rfl hl.1 rfl (by omega) (Nat.le_of_ble_eq_true rfl) (by omega) nD_X11_84 (fun u15 H locs hH hS => ?_)
  have hH : n_H x ((h, .inr (10, [.ref (q1), .int 0, .ref (q2), .ref (q3), .ref (q5), .ref (q7), .int 0, .null, .null, .null, .null, .null, .null, .null, .int 0, .int 0, .int 0])) :: ([(q9, .inl (x.cL, 5, .inr (.inr (.inr (.inr (va_up (va_up (fun _ => none) 0 (some q10)) 1 (some q12)))))))] ++ [(q10, .inr (4, []))] ++ [(q12, .inr (8, []))] ++ [(q14, .inr (3, []))])) (((((([] ++ [(q1, n_ar x.cI 48)]) ++ [(q2, n_ar x.cI 7)]) ++ n_slope x q3 u4) ++ n_held x q5 u6) ++ n_held x q7 u8) ++ Y) H := hH
  refine n_ast F hH hS 1 4 3 (C := RX4) (T := TX4) rfl rfl rfl (by decide) (by unfold vp_in; decide) nD_X11_87 (fun H locs hH hS => ?_)
  have hH : n_H x ((h, .inr (10, [.ref (q1), .int 0, .ref (q2), .ref (q3), .ref (q5), .ref (q7), .int 0, .null, .null, .null, .null, .null, .null, .null, .int 0, .int 0, .int 0])) :: ([(q9, .inl (x.cL, 5, .inr (.inr (.inr (.inr (va_up (va_up (va_up (fun _ => none) 0 (some q10)) 1 (some q12)) 2 (some q14)))))))] ++ [(q10, .inr (4, []))] ++ [(q12, .inr (8, []))] ++ [(q14, .inr (3, []))])) (((((([] ++ [(q1, n_ar x.cI 48)]) ++ [(q2, n_ar x.cI 7)]) ++ n_slope x q3 u4) ++ n_held x q5 u6) ++ n_held x q7 u8) ++ Y) H := hH
  refine lv_dup F.1 F.2.1 nD_X11_88 rfl ?_
  refine lv_iconst (v := 3) F.1 F.2.1 nD_X11_89 (by decide) ?_
  refine n_newO F hH hS (C := RX0) (T := TX0) (N := 0) 0 ingX0 tyX0 tyX0_ok ⟨nC_X11_44, nN_X0, nZ_X0⟩ rfl (fs := []) (fun j hj => absurd hj (Nat.not_lt_zero j)) (by omega) (by omega) nD_X11_90 (fun q16 H hH hS => ?_)
  have hH : n_H x (((h, .inr (10, [.ref (q1), .int 0, .ref (q2), .ref (q3), .ref (q5), .ref (q7), .int 0, .null, .null, .null, .null, .null, .null, .null, .int 0, .int 0, .int 0])) :: ([(q9, .inl (x.cL, 5, .inr (.inr (.inr (.inr (va_up (va_up (va_up (fun _ => none) 0 (some q10)) 1 (some q12)) 2 (some q14)))))))] ++ [(q10, .inr (4, []))] ++ [(q12, .inr (8, []))] ++ [(q14, .inr (3, []))])) ++ [(q16, .inr (0, []))]) (((((([] ++ [(q1, n_ar x.cI 48)]) ++ [(q2, n_ar x.cI 7)]) ++ n_slope x q3 u4) ++ n_held x q5 u6) ++ n_held x q7 u8) ++ Y) H := hH
  refine lv_dup F.1 F.2.1 nD_X11_93 rfl ?_
  refine n_call F (X' := (h, .inr (10, [.ref (q1), .int 0, .ref (q2), .ref (q3), .ref (q5), .ref (q7), .int 0, .null, .null, .null, .null, .null, .null, .null, .int 0, .int 0, .int 0])) :: ([(q9, .inl (x.cL, 5, .inr (.inr (.inr (.inr (va_up (va_up (va_up (fun _ => none) 0 (some q10)) 1 (some q12)) 2 (some q14)))))))] ++ [(q10, .inr (4, []))] ++ [(q12, .inr (8, []))] ++ [(q14, .inr (3, []))])) (X0 := [(q16, .inr (0, []))]) hH rfl hS (n := 0) (As := []) (rest := [.ref q16, .int 3, .ref q9, .ref q9, .ref h]) (n_iX0 l x q16 (.inr (0, []))) ⟨rfl, by decide, by decide, by decide +kernel⟩ ⟨nM_X0, nZ_X0, nB_X0⟩ (Or.inr (F.2.2.2.2.2.2.2.1.1 ("NeverCross", 46, "NeverCross$Any") (by decide))) rfl hl.1 rfl (by omega) (Nat.le_of_ble_eq_true rfl) (by omega) nD_X11_94 (fun u17 H locs hH hS => ?_)
  have hH : n_H x ((h, .inr (10, [.ref (q1), .int 0, .ref (q2), .ref (q3), .ref (q5), .ref (q7), .int 0, .null, .null, .null, .null, .null, .null, .null, .int 0, .int 0, .int 0])) :: ([(q9, .inl (x.cL, 5, .inr (.inr (.inr (.inr (va_up (va_up (va_up (fun _ => none) 0 (some q10)) 1 (some q12)) 2 (some q14)))))))] ++ [(q10, .inr (4, []))] ++ [(q12, .inr (8, []))] ++ [(q14, .inr (3, []))] ++ [(q16, .inr (0, []))])) (((((([] ++ [(q1, n_ar x.cI 48)]) ++ [(q2, n_ar x.cI 7)]) ++ n_slope x q3 u4) ++ n_held x q5 u6) ++ n_held x q7 u8) ++ Y) H := hH
  refine n_ast F hH hS 1 5 0 (C := RX0) (T := TX0) rfl rfl rfl (by decide) (by unfold vp_in; decide) nD_X11_97 (fun H locs hH hS => ?_)
  have hH : n_H x ((h, .inr (10, [.ref (q1), .int 0, .ref (q2), .ref (q3), .ref (q5), .ref (q7), .int 0, .null, .null, .null, .null, .null, .null, .null, .int 0, .int 0, .int 0])) :: ([(q9, .inl (x.cL, 5, .inr (.inr (.inr (.inr (va_up (va_up (va_up (va_up (fun _ => none) 0 (some q10)) 1 (some q12)) 2 (some q14)) 3 (some q16)))))))] ++ [(q10, .inr (4, []))] ++ [(q12, .inr (8, []))] ++ [(q14, .inr (3, []))] ++ [(q16, .inr (0, []))])) (((((([] ++ [(q1, n_ar x.cI 48)]) ++ [(q2, n_ar x.cI 7)]) ++ n_slope x q3 u4) ++ n_held x q5 u6) ++ n_held x q7 u8) ++ Y) H := hH
  refine lv_dup F.1 F.2.1 nD_X11_98 rfl ?_
  refine lv_iconst (v := 4) F.1 F.2.1 nD_X11_99 (by decide) ?_
  refine n_newO F hH hS (C := RX8) (T := TX8) (N := 0) 7 ingX8 tyX8 tyX8_ok ⟨nC_X11_47, nN_X8, nZ_X8⟩ rfl (fs := []) (fun j hj => absurd hj (Nat.not_lt_zero j)) (by omega) (by omega) nD_X11_100 (fun q18 H hH hS => ?_)
  have hH : n_H x (((h, .inr (10, [.ref (q1), .int 0, .ref (q2), .ref (q3), .ref (q5), .ref (q7), .int 0, .null, .null, .null, .null, .null, .null, .null, .int 0, .int 0, .int 0])) :: ([(q9, .inl (x.cL, 5, .inr (.inr (.inr (.inr (va_up (va_up (va_up (va_up (fun _ => none) 0 (some q10)) 1 (some q12)) 2 (some q14)) 3 (some q16)))))))] ++ [(q10, .inr (4, []))] ++ [(q12, .inr (8, []))] ++ [(q14, .inr (3, []))] ++ [(q16, .inr (0, []))])) ++ [(q18, .inr (7, []))]) (((((([] ++ [(q1, n_ar x.cI 48)]) ++ [(q2, n_ar x.cI 7)]) ++ n_slope x q3 u4) ++ n_held x q5 u6) ++ n_held x q7 u8) ++ Y) H := hH
  refine lv_dup F.1 F.2.1 nD_X11_103 rfl ?_
  refine n_call F (X' := (h, .inr (10, [.ref (q1), .int 0, .ref (q2), .ref (q3), .ref (q5), .ref (q7), .int 0, .null, .null, .null, .null, .null, .null, .null, .int 0, .int 0, .int 0])) :: ([(q9, .inl (x.cL, 5, .inr (.inr (.inr (.inr (va_up (va_up (va_up (va_up (fun _ => none) 0 (some q10)) 1 (some q12)) 2 (some q14)) 3 (some q16)))))))] ++ [(q10, .inr (4, []))] ++ [(q12, .inr (8, []))] ++ [(q14, .inr (3, []))] ++ [(q16, .inr (0, []))])) (X0 := [(q18, .inr (7, []))]) hH rfl hS (n := 0) (As := []) (rest := [.ref q18, .int 4, .ref q9, .ref q9, .ref h]) (n_iX8 l x q18 (.inr (7, []))) ⟨rfl, by decide, by decide, by decide +kernel⟩ ⟨nM_X8, nZ_X8, nB_X8⟩ (Or.inr (F.2.2.2.2.2.2.2.1.1 ("NeverCross", 49, "NeverCross$Told") (by decide))) rfl hl.1 rfl (by omega) (Nat.le_of_ble_eq_true rfl) (by omega) nD_X11_104 (fun u19 H locs hH hS => ?_)
  have hH : n_H x ((h, .inr (10, [.ref (q1), .int 0, .ref (q2), .ref (q3), .ref (q5), .ref (q7), .int 0, .null, .null, .null, .null, .null, .null, .null, .int 0, .int 0, .int 0])) :: ([(q9, .inl (x.cL, 5, .inr (.inr (.inr (.inr (va_up (va_up (va_up (va_up (fun _ => none) 0 (some q10)) 1 (some q12)) 2 (some q14)) 3 (some q16)))))))] ++ [(q10, .inr (4, []))] ++ [(q12, .inr (8, []))] ++ [(q14, .inr (3, []))] ++ [(q16, .inr (0, []))] ++ [(q18, .inr (7, []))])) (((((([] ++ [(q1, n_ar x.cI 48)]) ++ [(q2, n_ar x.cI 7)]) ++ n_slope x q3 u4) ++ n_held x q5 u6) ++ n_held x q7 u8) ++ Y) H := hH
  refine n_ast F hH hS 1 6 7 (C := RX8) (T := TX8) rfl rfl rfl (by decide) (by unfold vp_in; decide) nD_X11_107 (fun H locs hH hS => ?_)
  have hH : n_H x ((h, .inr (10, [.ref (q1), .int 0, .ref (q2), .ref (q3), .ref (q5), .ref (q7), .int 0, .null, .null, .null, .null, .null, .null, .null, .int 0, .int 0, .int 0])) :: ([(q9, .inl (x.cL, 5, .inr (.inr (.inr (.inr (va_up (va_up (va_up (va_up (va_up (fun _ => none) 0 (some q10)) 1 (some q12)) 2 (some q14)) 3 (some q16)) 4 (some q18)))))))] ++ [(q10, .inr (4, []))] ++ [(q12, .inr (8, []))] ++ [(q14, .inr (3, []))] ++ [(q16, .inr (0, []))] ++ [(q18, .inr (7, []))])) (((((([] ++ [(q1, n_ar x.cI 48)]) ++ [(q2, n_ar x.cI 7)]) ++ n_slope x q3 u4) ++ n_held x q5 u6) ++ n_held x q7 u8) ++ Y) H := hH
  have hH := n_fq hH 1 (g := (fun i => some ([q10, q12, q14, q16, q18].getD i 0))) rfl (fun j hj => by rcases (show j = 0 ∨ j = 1 ∨ j = 2 ∨ j = 3 ∨ j = 4 by omega) with rfl | rfl | rfl | rfl | rfl <;> rfl)
  have hH : n_H x ((h, .inr (10, [.ref (q1), .int 0, .ref (q2), .ref (q3), .ref (q5), .ref (q7), .int 0, .null, .null, .null, .null, .null, .null, .null, .int 0, .int 0, .int 0])) :: ([(q9, .inl (x.cL, 5, .inr (.inr (.inr (.inr (fun i => some ([q10, q12, q14, q16, q18].getD i 0)))))))] ++ [(q10, .inr (4, []))] ++ [(q12, .inr (8, []))] ++ [(q14, .inr (3, []))] ++ [(q16, .inr (0, []))] ++ [(q18, .inr (7, []))])) (((((([] ++ [(q1, n_ar x.cI 48)]) ++ [(q2, n_ar x.cI 7)]) ++ n_slope x q3 u4) ++ n_held x q5 u6) ++ n_held x q7 u8) ++ Y) H := hH
  refine n_putF F hH hS (C := RX11) (T := TX11) (N := 17) (ci := 10) (v := .ref (q9)) 7 tyX11 ⟨rfl, ingX11, by decide, rfl, rfl, nF_X11_50, tyX11_ok, nmX11⟩ rfl rfl rfl (Nat.le_of_ble_eq_true rfl) nD_X11_108 (fun H locs hH hS => ?_)
  have hH : n_H x ((h, .inr (10, [.ref (q1), .int 0, .ref (q2), .ref (q3), .ref (q5), .ref (q7), .int 0, .ref (q9), .null, .null, .null, .null, .null, .null, .int 0, .int 0, .int 0])) :: ([(q9, .inl (x.cL, 5, .inr (.inr (.inr (.inr (fun i => some ([q10, q12, q14, q16, q18].getD i 0)))))))] ++ [(q10, .inr (4, []))] ++ [(q12, .inr (8, []))] ++ [(q14, .inr (3, []))] ++ [(q16, .inr (0, []))] ++ [(q18, .inr (7, []))])) (((((([] ++ [(q1, n_ar x.cI 48)]) ++ [(q2, n_ar x.cI 7)]) ++ n_slope x q3 u4) ++ n_held x q5 u6) ++ n_held x q7 u8) ++ Y) H := hH
  have hH : n_H x [(h, .inr (10, [.ref (q1), .int 0, .ref (q2), .ref (q3), .ref (q5), .ref (q7), .int 0, .ref (q9), .null, .null, .null, .null, .null, .null, .int 0, .int 0, .int 0]))] ((((((([] ++ [(q1, n_ar x.cI 48)]) ++ [(q2, n_ar x.cI 7)]) ++ n_slope x q3 u4) ++ n_held x q5 u6) ++ n_held x q7 u8) ++ ([(q9, .inl (x.cL, 5, .inr (.inr (.inr (.inr (fun i => some ([q10, q12, q14, q16, q18].getD i 0)))))))] ++ [(q10, .inr (4, []))] ++ [(q12, .inr (8, []))] ++ [(q14, .inr (3, []))] ++ [(q16, .inr (0, []))] ++ [(q18, .inr (7, []))])) ++ Y) H := n_push hH
  refine lv_aload_n F.1 F.2.1 nD_X11_111 rfl (lv_at hl 0 rfl) ?_
  refine lv_iconst (v := (-1)) F.1 F.2.1 nD_X11_112 (by decide) ?_
  refine n_putF F hH hS (C := RX11) (T := TX11) (N := 17) (ci := 10) (v := .int (-1)) 15 tyX11 ⟨rfl, ingX11, by decide, rfl, rfl, nF_X11_54, tyX11_ok, nmX11⟩ rfl rfl rfl (Nat.le_of_ble_eq_true rfl) nD_X11_113 (fun H locs hH hS => ?_)
  have hH : n_H x ([(h, .inr (10, [.ref (q1), .int 0, .ref (q2), .ref (q3), .ref (q5), .ref (q7), .int 0, .ref (q9), .null, .null, .null, .null, .null, .null, .int 0, .int (-1), .int 0]))]) ((((((([] ++ [(q1, n_ar x.cI 48)]) ++ [(q2, n_ar x.cI 7)]) ++ n_slope x q3 u4) ++ n_held x q5 u6) ++ n_held x q7 u8) ++ ([(q9, .inl (x.cL, 5, .inr (.inr (.inr (.inr (fun i => some ([q10, q12, q14, q16, q18].getD i 0)))))))] ++ [(q10, .inr (4, []))] ++ [(q12, .inr (8, []))] ++ [(q14, .inr (3, []))] ++ [(q16, .inr (0, []))] ++ [(q18, .inr (7, []))])) ++ Y) H := hH
  refine lv_aload_n F.1 F.2.1 nD_X11_116 rfl (lv_at hl 0 rfl) ?_
  refine lv_iconst (v := (-1)) F.1 F.2.1 nD_X11_117 (by decide) ?_
  refine n_putF F hH hS (C := RX11) (T := TX11) (N := 17) (ci := 10) (v := .int (-1)) 16 tyX11 ⟨rfl, ingX11, by decide, rfl, rfl, nF_X11_58, tyX11_ok, nmX11⟩ rfl rfl rfl (Nat.le_of_ble_eq_true rfl) nD_X11_118 (fun H locs hH hS => ?_)
  have hH : n_H x ([(h, .inr (10, [.ref (q1), .int 0, .ref (q2), .ref (q3), .ref (q5), .ref (q7), .int 0, .ref (q9), .null, .null, .null, .null, .null, .null, .int 0, .int (-1), .int (-1)]))]) ((((((([] ++ [(q1, n_ar x.cI 48)]) ++ [(q2, n_ar x.cI 7)]) ++ n_slope x q3 u4) ++ n_held x q5 u6) ++ n_held x q7 u8) ++ ([(q9, .inl (x.cL, 5, .inr (.inr (.inr (.inr (fun i => some ([q10, q12, q14, q16, q18].getD i 0)))))))] ++ [(q10, .inr (4, []))] ++ [(q12, .inr (8, []))] ++ [(q14, .inr (3, []))] ++ [(q16, .inr (0, []))] ++ [(q18, .inr (7, []))])) ++ Y) H := hH
  refine lv_aload_n F.1 F.2.1 nD_X11_121 rfl (lv_at hl 0 rfl) ?_
  refine n_newO F hH hS (C := RX10) (T := TX10) (N := 5) 9 ingX10 tyX10 tyX10_ok ⟨nC_X11_61, nN_X10, nZ_X10⟩ rfl (fs := [.null, .int 0, .null, .null, .null]) (fun j hj => by rcases (show j = 0 ∨ j = 1 ∨ j = 2 ∨ j = 3 ∨ j = 4 by omega) with rfl | rfl | rfl | rfl | rfl <;> rfl) (by omega) (by omega) nD_X11_122 (fun q20 H hH hS => ?_)
  have hH : n_H x (([(h, .inr (10, [.ref (q1), .int 0, .ref (q2), .ref (q3), .ref (q5), .ref (q7), .int 0, .ref (q9), .null, .null, .null, .null, .null, .null, .int 0, .int (-1), .int (-1)]))]) ++ [(q20, .inr (9, [.null, .int 0, .null, .null, .null]))]) ((((((([] ++ [(q1, n_ar x.cI 48)]) ++ [(q2, n_ar x.cI 7)]) ++ n_slope x q3 u4) ++ n_held x q5 u6) ++ n_held x q7 u8) ++ ([(q9, .inl (x.cL, 5, .inr (.inr (.inr (.inr (fun i => some ([q10, q12, q14, q16, q18].getD i 0)))))))] ++ [(q10, .inr (4, []))] ++ [(q12, .inr (8, []))] ++ [(q14, .inr (3, []))] ++ [(q16, .inr (0, []))] ++ [(q18, .inr (7, []))])) ++ Y) H := hH
  refine lv_dup F.1 F.2.1 nD_X11_125 rfl ?_
  refine lv_aload_n F.1 F.2.1 nD_X11_126 rfl (lv_at hl 0 rfl) ?_
  refine n_get F hH (C := RX11) (T := TX11) (N := 17) 0 4 ⟨rfl, ingX11, by decide, rfl, nF_X11_26⟩ (v := .ref (q5)) rfl rfl nD_X11_127 ?_
  refine n_getM F hH (C := RX2) (T := TX2) (N := 8) 0 ⟨rfl, ingX2, by decide, rfl, nF_X11_63⟩ (v := .ref (u6 0)) (List.mem_append_left Y (List.mem_append_left _ (List.mem_append_left _ (List.mem_append_right _ (n_held_mem x q5 u6))))) rfl nD_X11_130 ?_
  refine n_call F (X' := [(h, .inr (10, [.ref (q1), .int 0, .ref (q2), .ref (q3), .ref (q5), .ref (q7), .int 0, .ref (q9), .null, .null, .null, .null, .null, .null, .int 0, .int (-1), .int (-1)]))]) (X0 := [(q20, .inr (9, [.null, .int 0, .null, .null, .null]))]) hH rfl hS (n := 1) (As := [.ref (u6 0)]) (rest := [.ref q20, .ref h]) (n_iX10 l x q20 (u6 0)) ⟨rfl, by decide, by decide, by decide +kernel⟩ ⟨nM_X10, nZ_X10, nB_X10⟩ (Or.inl nL_X11_66) rfl hl.1 rfl (by omega) (Nat.le_of_ble_eq_true rfl) (by omega) nD_X11_133 (fun u21 H locs hH hS => ?_)
  have hH : n_H x ((h, .inr (10, [.ref (q1), .int 0, .ref (q2), .ref (q3), .ref (q5), .ref (q7), .int 0, .ref (q9), .null, .null, .null, .null, .null, .null, .int 0, .int (-1), .int (-1)])) :: (n_ways x q20 ((u6 0)) u21)) ((((((([] ++ [(q1, n_ar x.cI 48)]) ++ [(q2, n_ar x.cI 7)]) ++ n_slope x q3 u4) ++ n_held x q5 u6) ++ n_held x q7 u8) ++ ([(q9, .inl (x.cL, 5, .inr (.inr (.inr (.inr (fun i => some ([q10, q12, q14, q16, q18].getD i 0)))))))] ++ [(q10, .inr (4, []))] ++ [(q12, .inr (8, []))] ++ [(q14, .inr (3, []))] ++ [(q16, .inr (0, []))] ++ [(q18, .inr (7, []))])) ++ Y) H := hH
  refine n_putF F hH hS (C := RX11) (T := TX11) (N := 17) (ci := 10) (v := .ref (q20)) 8 tyX11 ⟨rfl, ingX11, by decide, rfl, rfl, nF_X11_69, tyX11_ok, nmX11⟩ rfl rfl rfl (Nat.le_of_ble_eq_true rfl) nD_X11_136 (fun H locs hH hS => ?_)
  have hH : n_H x ((h, .inr (10, [.ref (q1), .int 0, .ref (q2), .ref (q3), .ref (q5), .ref (q7), .int 0, .ref (q9), .ref (q20), .null, .null, .null, .null, .null, .int 0, .int (-1), .int (-1)])) :: (n_ways x q20 ((u6 0)) u21)) ((((((([] ++ [(q1, n_ar x.cI 48)]) ++ [(q2, n_ar x.cI 7)]) ++ n_slope x q3 u4) ++ n_held x q5 u6) ++ n_held x q7 u8) ++ ([(q9, .inl (x.cL, 5, .inr (.inr (.inr (.inr (fun i => some ([q10, q12, q14, q16, q18].getD i 0)))))))] ++ [(q10, .inr (4, []))] ++ [(q12, .inr (8, []))] ++ [(q14, .inr (3, []))] ++ [(q16, .inr (0, []))] ++ [(q18, .inr (7, []))])) ++ Y) H := hH
  have hH : n_H x [(h, .inr (10, [.ref (q1), .int 0, .ref (q2), .ref (q3), .ref (q5), .ref (q7), .int 0, .ref (q9), .ref (q20), .null, .null, .null, .null, .null, .int 0, .int (-1), .int (-1)]))] (((((((([] ++ [(q1, n_ar x.cI 48)]) ++ [(q2, n_ar x.cI 7)]) ++ n_slope x q3 u4) ++ n_held x q5 u6) ++ n_held x q7 u8) ++ ([(q9, .inl (x.cL, 5, .inr (.inr (.inr (.inr (fun i => some ([q10, q12, q14, q16, q18].getD i 0)))))))] ++ [(q10, .inr (4, []))] ++ [(q12, .inr (8, []))] ++ [(q14, .inr (3, []))] ++ [(q16, .inr (0, []))] ++ [(q18, .inr (7, []))])) ++ n_ways x q20 ((u6 0)) u21) ++ Y) H := n_push hH
  refine lv_aload_n F.1 F.2.1 nD_X11_139 rfl (lv_at hl 0 rfl) ?_
  refine n_newO F hH hS (C := RX10) (T := TX10) (N := 5) 9 ingX10 tyX10 tyX10_ok ⟨nC_X11_61, nN_X10, nZ_X10⟩ rfl (fs := [.null, .int 0, .null, .null, .null]) (fun j hj => by rcases (show j = 0 ∨ j = 1 ∨ j = 2 ∨ j = 3 ∨ j = 4 by omega) with rfl | rfl | rfl | rfl | rfl <;> rfl) (by omega) (by omega) nD_X11_140 (fun q22 H hH hS => ?_)
  have hH : n_H x (([(h, .inr (10, [.ref (q1), .int 0, .ref (q2), .ref (q3), .ref (q5), .ref (q7), .int 0, .ref (q9), .ref (q20), .null, .null, .null, .null, .null, .int 0, .int (-1), .int (-1)]))]) ++ [(q22, .inr (9, [.null, .int 0, .null, .null, .null]))]) (((((((([] ++ [(q1, n_ar x.cI 48)]) ++ [(q2, n_ar x.cI 7)]) ++ n_slope x q3 u4) ++ n_held x q5 u6) ++ n_held x q7 u8) ++ ([(q9, .inl (x.cL, 5, .inr (.inr (.inr (.inr (fun i => some ([q10, q12, q14, q16, q18].getD i 0)))))))] ++ [(q10, .inr (4, []))] ++ [(q12, .inr (8, []))] ++ [(q14, .inr (3, []))] ++ [(q16, .inr (0, []))] ++ [(q18, .inr (7, []))])) ++ n_ways x q20 ((u6 0)) u21) ++ Y) H := hH
  refine lv_dup F.1 F.2.1 nD_X11_143 rfl ?_
  refine lv_aload_n F.1 F.2.1 nD_X11_144 rfl (lv_at hl 0 rfl) ?_
  refine n_get F hH (C := RX11) (T := TX11) (N := 17) 0 4 ⟨rfl, ingX11, by decide, rfl, nF_X11_26⟩ (v := .ref (q5)) rfl rfl nD_X11_145 ?_
  refine n_getM F hH (C := RX2) (T := TX2) (N := 8) 0 ⟨rfl, ingX2, by decide, rfl, nF_X11_63⟩ (v := .ref (u6 0)) (List.mem_append_left Y (List.mem_append_left _ (List.mem_append_left _ (List.mem_append_left _ (List.mem_append_right _ (n_held_mem x q5 u6)))))) rfl nD_X11_148 ?_
  refine n_call F (X' := [(h, .inr (10, [.ref (q1), .int 0, .ref (q2), .ref (q3), .ref (q5), .ref (q7), .int 0, .ref (q9), .ref (q20), .null, .null, .null, .null, .null, .int 0, .int (-1), .int (-1)]))]) (X0 := [(q22, .inr (9, [.null, .int 0, .null, .null, .null]))]) hH rfl hS (n := 1) (As := [.ref (u6 0)]) (rest := [.ref q22, .ref h]) (n_iX10 l x q22 (u6 0)) ⟨rfl, by decide, by decide, by decide +kernel⟩ ⟨nM_X10, nZ_X10, nB_X10⟩ (Or.inl nL_X11_66) rfl hl.1 rfl (by omega) (Nat.le_of_ble_eq_true rfl) (by omega) nD_X11_151 (fun u23 H locs hH hS => ?_)
  have hH : n_H x ((h, .inr (10, [.ref (q1), .int 0, .ref (q2), .ref (q3), .ref (q5), .ref (q7), .int 0, .ref (q9), .ref (q20), .null, .null, .null, .null, .null, .int 0, .int (-1), .int (-1)])) :: (n_ways x q22 ((u6 0)) u23)) (((((((([] ++ [(q1, n_ar x.cI 48)]) ++ [(q2, n_ar x.cI 7)]) ++ n_slope x q3 u4) ++ n_held x q5 u6) ++ n_held x q7 u8) ++ ([(q9, .inl (x.cL, 5, .inr (.inr (.inr (.inr (fun i => some ([q10, q12, q14, q16, q18].getD i 0)))))))] ++ [(q10, .inr (4, []))] ++ [(q12, .inr (8, []))] ++ [(q14, .inr (3, []))] ++ [(q16, .inr (0, []))] ++ [(q18, .inr (7, []))])) ++ n_ways x q20 ((u6 0)) u21) ++ Y) H := hH
  refine n_putF F hH hS (C := RX11) (T := TX11) (N := 17) (ci := 10) (v := .ref (q22)) 9 tyX11 ⟨rfl, ingX11, by decide, rfl, rfl, nF_X11_73, tyX11_ok, nmX11⟩ rfl rfl rfl (Nat.le_of_ble_eq_true rfl) nD_X11_154 (fun H locs hH hS => ?_)
  have hH : n_H x ((h, .inr (10, [.ref (q1), .int 0, .ref (q2), .ref (q3), .ref (q5), .ref (q7), .int 0, .ref (q9), .ref (q20), .ref (q22), .null, .null, .null, .null, .int 0, .int (-1), .int (-1)])) :: (n_ways x q22 ((u6 0)) u23)) (((((((([] ++ [(q1, n_ar x.cI 48)]) ++ [(q2, n_ar x.cI 7)]) ++ n_slope x q3 u4) ++ n_held x q5 u6) ++ n_held x q7 u8) ++ ([(q9, .inl (x.cL, 5, .inr (.inr (.inr (.inr (fun i => some ([q10, q12, q14, q16, q18].getD i 0)))))))] ++ [(q10, .inr (4, []))] ++ [(q12, .inr (8, []))] ++ [(q14, .inr (3, []))] ++ [(q16, .inr (0, []))] ++ [(q18, .inr (7, []))])) ++ n_ways x q20 ((u6 0)) u21) ++ Y) H := hH
  have hH : n_H x [(h, .inr (10, [.ref (q1), .int 0, .ref (q2), .ref (q3), .ref (q5), .ref (q7), .int 0, .ref (q9), .ref (q20), .ref (q22), .null, .null, .null, .null, .int 0, .int (-1), .int (-1)]))] ((((((((([] ++ [(q1, n_ar x.cI 48)]) ++ [(q2, n_ar x.cI 7)]) ++ n_slope x q3 u4) ++ n_held x q5 u6) ++ n_held x q7 u8) ++ ([(q9, .inl (x.cL, 5, .inr (.inr (.inr (.inr (fun i => some ([q10, q12, q14, q16, q18].getD i 0)))))))] ++ [(q10, .inr (4, []))] ++ [(q12, .inr (8, []))] ++ [(q14, .inr (3, []))] ++ [(q16, .inr (0, []))] ++ [(q18, .inr (7, []))])) ++ n_ways x q20 ((u6 0)) u21) ++ n_ways x q22 ((u6 0)) u23) ++ Y) H := n_push hH
  refine lv_aload_n F.1 F.2.1 nD_X11_157 rfl (lv_at hl 0 rfl) ?_
  refine n_newO F hH hS (C := RX7) (T := TX7) (N := 9) 6 ingX7 tyX7 tyX7_ok ⟨nC_X11_76, nN_X7, nZ_X7⟩ rfl (fs := [.int 0, .int 0, .null, .null, .null, .null, .null, .null, .null]) (fun j hj => by rcases (show j = 0 ∨ j = 1 ∨ j = 2 ∨ j = 3 ∨ j = 4 ∨ j = 5 ∨ j = 6 ∨ j = 7 ∨ j = 8 by omega) with rfl | rfl | rfl | rfl | rfl | rfl | rfl | rfl | rfl <;> rfl) (by omega) (by omega) nD_X11_158 (fun q24 H hH hS => ?_)
  have hH : n_H x (([(h, .inr (10, [.ref (q1), .int 0, .ref (q2), .ref (q3), .ref (q5), .ref (q7), .int 0, .ref (q9), .ref (q20), .ref (q22), .null, .null, .null, .null, .int 0, .int (-1), .int (-1)]))]) ++ [(q24, .inr (6, [.int 0, .int 0, .null, .null, .null, .null, .null, .null, .null]))]) ((((((((([] ++ [(q1, n_ar x.cI 48)]) ++ [(q2, n_ar x.cI 7)]) ++ n_slope x q3 u4) ++ n_held x q5 u6) ++ n_held x q7 u8) ++ ([(q9, .inl (x.cL, 5, .inr (.inr (.inr (.inr (fun i => some ([q10, q12, q14, q16, q18].getD i 0)))))))] ++ [(q10, .inr (4, []))] ++ [(q12, .inr (8, []))] ++ [(q14, .inr (3, []))] ++ [(q16, .inr (0, []))] ++ [(q18, .inr (7, []))])) ++ n_ways x q20 ((u6 0)) u21) ++ n_ways x q22 ((u6 0)) u23) ++ Y) H := hH
  refine lv_dup F.1 F.2.1 nD_X11_161 rfl ?_
  refine lv_aload_n F.1 F.2.1 nD_X11_162 rfl (lv_at hl 0 rfl) ?_
  refine n_get F hH (C := RX11) (T := TX11) (N := 17) 0 4 ⟨rfl, ingX11, by decide, rfl, nF_X11_26⟩ (v := .ref (q5)) rfl rfl nD_X11_163 ?_
  refine n_getM F hH (C := RX2) (T := TX2) (N := 8) 0 ⟨rfl, ingX2, by decide, rfl, nF_X11_63⟩ (v := .ref (u6 0)) (List.mem_append_left Y (List.mem_append_left _ (List.mem_append_left _ (List.mem_append_left _ (List.mem_append_left _ (List.mem_append_right _ (n_held_mem x q5 u6))))))) rfl nD_X11_166 ?_
  refine lv_aload_n F.1 F.2.1 nD_X11_169 rfl (lv_at hl 0 rfl) ?_
  refine n_get F hH (C := RX11) (T := TX11) (N := 17) 0 8 ⟨rfl, ingX11, by decide, rfl, nF_X11_69⟩ (v := .ref (q20)) rfl rfl nD_X11_170 ?_
  refine n_call F (X' := [(h, .inr (10, [.ref (q1), .int 0, .ref (q2), .ref (q3), .ref (q5), .ref (q7), .int 0, .ref (q9), .ref (q20), .ref (q22), .null, .null, .null, .null, .int 0, .int (-1), .int (-1)]))]) (X0 := [(q24, .inr (6, [.int 0, .int 0, .null, .null, .null, .null, .null, .null, .null]))]) hH rfl hS (n := 2) (As := [.ref (u6 0), .ref q20]) (rest := [.ref q24, .ref h]) (n_iX7 l x q24 (u6 0) q20) ⟨rfl, by decide, by decide, by decide +kernel⟩ ⟨nM_X7, nZ_X7, nB_X7⟩ (Or.inl nL_X11_78) rfl hl.1 rfl (by omega) (Nat.le_of_ble_eq_true rfl) (by omega) nD_X11_173 (fun u25 H locs hH hS => ?_)
  have hH : n_H x ((h, .inr (10, [.ref (q1), .int 0, .ref (q2), .ref (q3), .ref (q5), .ref (q7), .int 0, .ref (q9), .ref (q20), .ref (q22), .null, .null, .null, .null, .int 0, .int (-1), .int (-1)])) :: (n_study x q24 ((u6 0)) q20 u25)) ((((((((([] ++ [(q1, n_ar x.cI 48)]) ++ [(q2, n_ar x.cI 7)]) ++ n_slope x q3 u4) ++ n_held x q5 u6) ++ n_held x q7 u8) ++ ([(q9, .inl (x.cL, 5, .inr (.inr (.inr (.inr (fun i => some ([q10, q12, q14, q16, q18].getD i 0)))))))] ++ [(q10, .inr (4, []))] ++ [(q12, .inr (8, []))] ++ [(q14, .inr (3, []))] ++ [(q16, .inr (0, []))] ++ [(q18, .inr (7, []))])) ++ n_ways x q20 ((u6 0)) u21) ++ n_ways x q22 ((u6 0)) u23) ++ Y) H := hH
  refine n_putF F hH hS (C := RX11) (T := TX11) (N := 17) (ci := 10) (v := .ref (q24)) 10 tyX11 ⟨rfl, ingX11, by decide, rfl, rfl, nF_X11_81, tyX11_ok, nmX11⟩ rfl rfl rfl (Nat.le_of_ble_eq_true rfl) nD_X11_176 (fun H locs hH hS => ?_)
  have hH : n_H x ((h, .inr (10, [.ref (q1), .int 0, .ref (q2), .ref (q3), .ref (q5), .ref (q7), .int 0, .ref (q9), .ref (q20), .ref (q22), .ref (q24), .null, .null, .null, .int 0, .int (-1), .int (-1)])) :: (n_study x q24 ((u6 0)) q20 u25)) ((((((((([] ++ [(q1, n_ar x.cI 48)]) ++ [(q2, n_ar x.cI 7)]) ++ n_slope x q3 u4) ++ n_held x q5 u6) ++ n_held x q7 u8) ++ ([(q9, .inl (x.cL, 5, .inr (.inr (.inr (.inr (fun i => some ([q10, q12, q14, q16, q18].getD i 0)))))))] ++ [(q10, .inr (4, []))] ++ [(q12, .inr (8, []))] ++ [(q14, .inr (3, []))] ++ [(q16, .inr (0, []))] ++ [(q18, .inr (7, []))])) ++ n_ways x q20 ((u6 0)) u21) ++ n_ways x q22 ((u6 0)) u23) ++ Y) H := hH
  have hH : n_H x [(h, .inr (10, [.ref (q1), .int 0, .ref (q2), .ref (q3), .ref (q5), .ref (q7), .int 0, .ref (q9), .ref (q20), .ref (q22), .ref (q24), .null, .null, .null, .int 0, .int (-1), .int (-1)]))] (((((((((([] ++ [(q1, n_ar x.cI 48)]) ++ [(q2, n_ar x.cI 7)]) ++ n_slope x q3 u4) ++ n_held x q5 u6) ++ n_held x q7 u8) ++ ([(q9, .inl (x.cL, 5, .inr (.inr (.inr (.inr (fun i => some ([q10, q12, q14, q16, q18].getD i 0)))))))] ++ [(q10, .inr (4, []))] ++ [(q12, .inr (8, []))] ++ [(q14, .inr (3, []))] ++ [(q16, .inr (0, []))] ++ [(q18, .inr (7, []))])) ++ n_ways x q20 ((u6 0)) u21) ++ n_ways x q22 ((u6 0)) u23) ++ n_study x q24 ((u6 0)) q20 u25) ++ Y) H := n_push hH
  refine lv_aload_n F.1 F.2.1 nD_X11_179 rfl (lv_at hl 0 rfl) ?_
  refine n_newO F hH hS (C := RX1) (T := TX1) (N := 6) 1 ingX1 tyX1 tyX1_ok ⟨nC_X11_85, nN_X1, nZ_X1⟩ rfl (fs := [.null, .null, .null, .int 0, .int 0, .int 0]) (fun j hj => by rcases (show j = 0 ∨ j = 1 ∨ j = 2 ∨ j = 3 ∨ j = 4 ∨ j = 5 by omega) with rfl | rfl | rfl | rfl | rfl | rfl <;> rfl) (by omega) (by omega) nD_X11_180 (fun q26 H hH hS => ?_)
  have hH : n_H x (([(h, .inr (10, [.ref (q1), .int 0, .ref (q2), .ref (q3), .ref (q5), .ref (q7), .int 0, .ref (q9), .ref (q20), .ref (q22), .ref (q24), .null, .null, .null, .int 0, .int (-1), .int (-1)]))]) ++ [(q26, .inr (1, [.null, .null, .null, .int 0, .int 0, .int 0]))]) (((((((((([] ++ [(q1, n_ar x.cI 48)]) ++ [(q2, n_ar x.cI 7)]) ++ n_slope x q3 u4) ++ n_held x q5 u6) ++ n_held x q7 u8) ++ ([(q9, .inl (x.cL, 5, .inr (.inr (.inr (.inr (fun i => some ([q10, q12, q14, q16, q18].getD i 0)))))))] ++ [(q10, .inr (4, []))] ++ [(q12, .inr (8, []))] ++ [(q14, .inr (3, []))] ++ [(q16, .inr (0, []))] ++ [(q18, .inr (7, []))])) ++ n_ways x q20 ((u6 0)) u21) ++ n_ways x q22 ((u6 0)) u23) ++ n_study x q24 ((u6 0)) q20 u25) ++ Y) H := hH
  refine lv_dup F.1 F.2.1 nD_X11_183 rfl ?_
  refine lv_aload_n F.1 F.2.1 nD_X11_184 rfl (lv_at hl 0 rfl) ?_
  refine n_get F hH (C := RX11) (T := TX11) (N := 17) 0 8 ⟨rfl, ingX11, by decide, rfl, nF_X11_69⟩ (v := .ref (q20)) rfl rfl nD_X11_185 ?_
  refine n_call F (X' := [(h, .inr (10, [.ref (q1), .int 0, .ref (q2), .ref (q3), .ref (q5), .ref (q7), .int 0, .ref (q9), .ref (q20), .ref (q22), .ref (q24), .null, .null, .null, .int 0, .int (-1), .int (-1)]))]) (X0 := [(q26, .inr (1, [.null, .null, .null, .int 0, .int 0, .int 0]))]) hH rfl hS (n := 1) (As := [.ref q20]) (rest := [.ref q26, .ref h]) (n_iX1 l x q26 q20) ⟨rfl, by decide, by decide, by decide +kernel⟩ ⟨nM_X1, nZ_X1, nB_X1⟩ (Or.inl nL_X11_87) rfl hl.1 rfl (by omega) (Nat.le_of_ble_eq_true rfl) (by omega) nD_X11_188 (fun u27 H locs hH hS => ?_)
  have hH : n_H x ((h, .inr (10, [.ref (q1), .int 0, .ref (q2), .ref (q3), .ref (q5), .ref (q7), .int 0, .ref (q9), .ref (q20), .ref (q22), .ref (q24), .null, .null, .null, .int 0, .int (-1), .int (-1)])) :: (n_finder x q26 q20 u27)) (((((((((([] ++ [(q1, n_ar x.cI 48)]) ++ [(q2, n_ar x.cI 7)]) ++ n_slope x q3 u4) ++ n_held x q5 u6) ++ n_held x q7 u8) ++ ([(q9, .inl (x.cL, 5, .inr (.inr (.inr (.inr (fun i => some ([q10, q12, q14, q16, q18].getD i 0)))))))] ++ [(q10, .inr (4, []))] ++ [(q12, .inr (8, []))] ++ [(q14, .inr (3, []))] ++ [(q16, .inr (0, []))] ++ [(q18, .inr (7, []))])) ++ n_ways x q20 ((u6 0)) u21) ++ n_ways x q22 ((u6 0)) u23) ++ n_study x q24 ((u6 0)) q20 u25) ++ Y) H := hH
  refine n_putF F hH hS (C := RX11) (T := TX11) (N := 17) (ci := 10) (v := .ref (q26)) 11 tyX11 ⟨rfl, ingX11, by decide, rfl, rfl, nF_X11_90, tyX11_ok, nmX11⟩ rfl rfl rfl (Nat.le_of_ble_eq_true rfl) nD_X11_191 (fun H locs hH hS => ?_)
  have hH : n_H x ((h, .inr (10, [.ref (q1), .int 0, .ref (q2), .ref (q3), .ref (q5), .ref (q7), .int 0, .ref (q9), .ref (q20), .ref (q22), .ref (q24), .ref (q26), .null, .null, .int 0, .int (-1), .int (-1)])) :: (n_finder x q26 q20 u27)) (((((((((([] ++ [(q1, n_ar x.cI 48)]) ++ [(q2, n_ar x.cI 7)]) ++ n_slope x q3 u4) ++ n_held x q5 u6) ++ n_held x q7 u8) ++ ([(q9, .inl (x.cL, 5, .inr (.inr (.inr (.inr (fun i => some ([q10, q12, q14, q16, q18].getD i 0)))))))] ++ [(q10, .inr (4, []))] ++ [(q12, .inr (8, []))] ++ [(q14, .inr (3, []))] ++ [(q16, .inr (0, []))] ++ [(q18, .inr (7, []))])) ++ n_ways x q20 ((u6 0)) u21) ++ n_ways x q22 ((u6 0)) u23) ++ n_study x q24 ((u6 0)) q20 u25) ++ Y) H := hH
  have hH : n_H x [(h, .inr (10, [.ref (q1), .int 0, .ref (q2), .ref (q3), .ref (q5), .ref (q7), .int 0, .ref (q9), .ref (q20), .ref (q22), .ref (q24), .ref (q26), .null, .null, .int 0, .int (-1), .int (-1)]))] ((((((((((([] ++ [(q1, n_ar x.cI 48)]) ++ [(q2, n_ar x.cI 7)]) ++ n_slope x q3 u4) ++ n_held x q5 u6) ++ n_held x q7 u8) ++ ([(q9, .inl (x.cL, 5, .inr (.inr (.inr (.inr (fun i => some ([q10, q12, q14, q16, q18].getD i 0)))))))] ++ [(q10, .inr (4, []))] ++ [(q12, .inr (8, []))] ++ [(q14, .inr (3, []))] ++ [(q16, .inr (0, []))] ++ [(q18, .inr (7, []))])) ++ n_ways x q20 ((u6 0)) u21) ++ n_ways x q22 ((u6 0)) u23) ++ n_study x q24 ((u6 0)) q20 u25) ++ n_finder x q26 q20 u27) ++ Y) H := n_push hH
  refine lv_aload_n F.1 F.2.1 nD_X11_194 rfl (lv_at hl 0 rfl) ?_
  refine n_newO F hH hS (C := RX1) (T := TX1) (N := 6) 1 ingX1 tyX1 tyX1_ok ⟨nC_X11_85, nN_X1, nZ_X1⟩ rfl (fs := [.null, .null, .null, .int 0, .int 0, .int 0]) (fun j hj => by rcases (show j = 0 ∨ j = 1 ∨ j = 2 ∨ j = 3 ∨ j = 4 ∨ j = 5 by omega) with rfl | rfl | rfl | rfl | rfl | rfl <;> rfl) (by omega) (by omega) nD_X11_195 (fun q28 H hH hS => ?_)
  have hH : n_H x (([(h, .inr (10, [.ref (q1), .int 0, .ref (q2), .ref (q3), .ref (q5), .ref (q7), .int 0, .ref (q9), .ref (q20), .ref (q22), .ref (q24), .ref (q26), .null, .null, .int 0, .int (-1), .int (-1)]))]) ++ [(q28, .inr (1, [.null, .null, .null, .int 0, .int 0, .int 0]))]) ((((((((((([] ++ [(q1, n_ar x.cI 48)]) ++ [(q2, n_ar x.cI 7)]) ++ n_slope x q3 u4) ++ n_held x q5 u6) ++ n_held x q7 u8) ++ ([(q9, .inl (x.cL, 5, .inr (.inr (.inr (.inr (fun i => some ([q10, q12, q14, q16, q18].getD i 0)))))))] ++ [(q10, .inr (4, []))] ++ [(q12, .inr (8, []))] ++ [(q14, .inr (3, []))] ++ [(q16, .inr (0, []))] ++ [(q18, .inr (7, []))])) ++ n_ways x q20 ((u6 0)) u21) ++ n_ways x q22 ((u6 0)) u23) ++ n_study x q24 ((u6 0)) q20 u25) ++ n_finder x q26 q20 u27) ++ Y) H := hH
  refine lv_dup F.1 F.2.1 nD_X11_198 rfl ?_
  refine lv_aload_n F.1 F.2.1 nD_X11_199 rfl (lv_at hl 0 rfl) ?_
  refine n_get F hH (C := RX11) (T := TX11) (N := 17) 0 8 ⟨rfl, ingX11, by decide, rfl, nF_X11_69⟩ (v := .ref (q20)) rfl rfl nD_X11_200 ?_
  refine n_call F (X' := [(h, .inr (10, [.ref (q1), .int 0, .ref (q2), .ref (q3), .ref (q5), .ref (q7), .int 0, .ref (q9), .ref (q20), .ref (q22), .ref (q24), .ref (q26), .null, .null, .int 0, .int (-1), .int (-1)]))]) (X0 := [(q28, .inr (1, [.null, .null, .null, .int 0, .int 0, .int 0]))]) hH rfl hS (n := 1) (As := [.ref q20]) (rest := [.ref q28, .ref h]) (n_iX1 l x q28 q20) ⟨rfl, by decide, by decide, by decide +kernel⟩ ⟨nM_X1, nZ_X1, nB_X1⟩ (Or.inl nL_X11_87) rfl hl.1 rfl (by omega) (Nat.le_of_ble_eq_true rfl) (by omega) nD_X11_203 (fun u29 H locs hH hS => ?_)
  have hH : n_H x ((h, .inr (10, [.ref (q1), .int 0, .ref (q2), .ref (q3), .ref (q5), .ref (q7), .int 0, .ref (q9), .ref (q20), .ref (q22), .ref (q24), .ref (q26), .null, .null, .int 0, .int (-1), .int (-1)])) :: (n_finder x q28 q20 u29)) ((((((((((([] ++ [(q1, n_ar x.cI 48)]) ++ [(q2, n_ar x.cI 7)]) ++ n_slope x q3 u4) ++ n_held x q5 u6) ++ n_held x q7 u8) ++ ([(q9, .inl (x.cL, 5, .inr (.inr (.inr (.inr (fun i => some ([q10, q12, q14, q16, q18].getD i 0)))))))] ++ [(q10, .inr (4, []))] ++ [(q12, .inr (8, []))] ++ [(q14, .inr (3, []))] ++ [(q16, .inr (0, []))] ++ [(q18, .inr (7, []))])) ++ n_ways x q20 ((u6 0)) u21) ++ n_ways x q22 ((u6 0)) u23) ++ n_study x q24 ((u6 0)) q20 u25) ++ n_finder x q26 q20 u27) ++ Y) H := hH
  refine n_putF F hH hS (C := RX11) (T := TX11) (N := 17) (ci := 10) (v := .ref (q28)) 12 tyX11 ⟨rfl, ingX11, by decide, rfl, rfl, nF_X11_94, tyX11_ok, nmX11⟩ rfl rfl rfl (Nat.le_of_ble_eq_true rfl) nD_X11_206 (fun H locs hH hS => ?_)
  have hH : n_H x ((h, .inr (10, [.ref (q1), .int 0, .ref (q2), .ref (q3), .ref (q5), .ref (q7), .int 0, .ref (q9), .ref (q20), .ref (q22), .ref (q24), .ref (q26), .ref (q28), .null, .int 0, .int (-1), .int (-1)])) :: (n_finder x q28 q20 u29)) ((((((((((([] ++ [(q1, n_ar x.cI 48)]) ++ [(q2, n_ar x.cI 7)]) ++ n_slope x q3 u4) ++ n_held x q5 u6) ++ n_held x q7 u8) ++ ([(q9, .inl (x.cL, 5, .inr (.inr (.inr (.inr (fun i => some ([q10, q12, q14, q16, q18].getD i 0)))))))] ++ [(q10, .inr (4, []))] ++ [(q12, .inr (8, []))] ++ [(q14, .inr (3, []))] ++ [(q16, .inr (0, []))] ++ [(q18, .inr (7, []))])) ++ n_ways x q20 ((u6 0)) u21) ++ n_ways x q22 ((u6 0)) u23) ++ n_study x q24 ((u6 0)) q20 u25) ++ n_finder x q26 q20 u27) ++ Y) H := hH
  have hH : n_H x [(h, .inr (10, [.ref (q1), .int 0, .ref (q2), .ref (q3), .ref (q5), .ref (q7), .int 0, .ref (q9), .ref (q20), .ref (q22), .ref (q24), .ref (q26), .ref (q28), .null, .int 0, .int (-1), .int (-1)]))] (((((((((((([] ++ [(q1, n_ar x.cI 48)]) ++ [(q2, n_ar x.cI 7)]) ++ n_slope x q3 u4) ++ n_held x q5 u6) ++ n_held x q7 u8) ++ ([(q9, .inl (x.cL, 5, .inr (.inr (.inr (.inr (fun i => some ([q10, q12, q14, q16, q18].getD i 0)))))))] ++ [(q10, .inr (4, []))] ++ [(q12, .inr (8, []))] ++ [(q14, .inr (3, []))] ++ [(q16, .inr (0, []))] ++ [(q18, .inr (7, []))])) ++ n_ways x q20 ((u6 0)) u21) ++ n_ways x q22 ((u6 0)) u23) ++ n_study x q24 ((u6 0)) q20 u25) ++ n_finder x q26 q20 u27) ++ n_finder x q28 q20 u29) ++ Y) H := n_push hH
  refine lv_aload_n F.1 F.2.1 nD_X11_209 rfl (lv_at hl 0 rfl) ?_
  refine n_newO F hH hS (C := RX1) (T := TX1) (N := 6) 1 ingX1 tyX1 tyX1_ok ⟨nC_X11_85, nN_X1, nZ_X1⟩ rfl (fs := [.null, .null, .null, .int 0, .int 0, .int 0]) (fun j hj => by rcases (show j = 0 ∨ j = 1 ∨ j = 2 ∨ j = 3 ∨ j = 4 ∨ j = 5 by omega) with rfl | rfl | rfl | rfl | rfl | rfl <;> rfl) (by omega) (by omega) nD_X11_210 (fun q30 H hH hS => ?_)
  have hH : n_H x (([(h, .inr (10, [.ref (q1), .int 0, .ref (q2), .ref (q3), .ref (q5), .ref (q7), .int 0, .ref (q9), .ref (q20), .ref (q22), .ref (q24), .ref (q26), .ref (q28), .null, .int 0, .int (-1), .int (-1)]))]) ++ [(q30, .inr (1, [.null, .null, .null, .int 0, .int 0, .int 0]))]) (((((((((((([] ++ [(q1, n_ar x.cI 48)]) ++ [(q2, n_ar x.cI 7)]) ++ n_slope x q3 u4) ++ n_held x q5 u6) ++ n_held x q7 u8) ++ ([(q9, .inl (x.cL, 5, .inr (.inr (.inr (.inr (fun i => some ([q10, q12, q14, q16, q18].getD i 0)))))))] ++ [(q10, .inr (4, []))] ++ [(q12, .inr (8, []))] ++ [(q14, .inr (3, []))] ++ [(q16, .inr (0, []))] ++ [(q18, .inr (7, []))])) ++ n_ways x q20 ((u6 0)) u21) ++ n_ways x q22 ((u6 0)) u23) ++ n_study x q24 ((u6 0)) q20 u25) ++ n_finder x q26 q20 u27) ++ n_finder x q28 q20 u29) ++ Y) H := hH
  refine lv_dup F.1 F.2.1 nD_X11_213 rfl ?_
  refine lv_aload_n F.1 F.2.1 nD_X11_214 rfl (lv_at hl 0 rfl) ?_
  refine n_get F hH (C := RX11) (T := TX11) (N := 17) 0 9 ⟨rfl, ingX11, by decide, rfl, nF_X11_73⟩ (v := .ref (q22)) rfl rfl nD_X11_215 ?_
  refine n_call F (X' := [(h, .inr (10, [.ref (q1), .int 0, .ref (q2), .ref (q3), .ref (q5), .ref (q7), .int 0, .ref (q9), .ref (q20), .ref (q22), .ref (q24), .ref (q26), .ref (q28), .null, .int 0, .int (-1), .int (-1)]))]) (X0 := [(q30, .inr (1, [.null, .null, .null, .int 0, .int 0, .int 0]))]) hH rfl hS (n := 1) (As := [.ref q22]) (rest := [.ref q30, .ref h]) (n_iX1 l x q30 q22) ⟨rfl, by decide, by decide, by decide +kernel⟩ ⟨nM_X1, nZ_X1, nB_X1⟩ (Or.inl nL_X11_87) rfl hl.1 rfl (by omega) (Nat.le_of_ble_eq_true rfl) (by omega) nD_X11_218 (fun u31 H locs hH hS => ?_)
  have hH : n_H x ((h, .inr (10, [.ref (q1), .int 0, .ref (q2), .ref (q3), .ref (q5), .ref (q7), .int 0, .ref (q9), .ref (q20), .ref (q22), .ref (q24), .ref (q26), .ref (q28), .null, .int 0, .int (-1), .int (-1)])) :: (n_finder x q30 q22 u31)) (((((((((((([] ++ [(q1, n_ar x.cI 48)]) ++ [(q2, n_ar x.cI 7)]) ++ n_slope x q3 u4) ++ n_held x q5 u6) ++ n_held x q7 u8) ++ ([(q9, .inl (x.cL, 5, .inr (.inr (.inr (.inr (fun i => some ([q10, q12, q14, q16, q18].getD i 0)))))))] ++ [(q10, .inr (4, []))] ++ [(q12, .inr (8, []))] ++ [(q14, .inr (3, []))] ++ [(q16, .inr (0, []))] ++ [(q18, .inr (7, []))])) ++ n_ways x q20 ((u6 0)) u21) ++ n_ways x q22 ((u6 0)) u23) ++ n_study x q24 ((u6 0)) q20 u25) ++ n_finder x q26 q20 u27) ++ n_finder x q28 q20 u29) ++ Y) H := hH
  refine n_putF F hH hS (C := RX11) (T := TX11) (N := 17) (ci := 10) (v := .ref (q30)) 13 tyX11 ⟨rfl, ingX11, by decide, rfl, rfl, nF_X11_97, tyX11_ok, nmX11⟩ rfl rfl rfl (Nat.le_of_ble_eq_true rfl) nD_X11_221 (fun H locs hH hS => ?_)
  have hH : n_H x ((h, .inr (10, [.ref (q1), .int 0, .ref (q2), .ref (q3), .ref (q5), .ref (q7), .int 0, .ref (q9), .ref (q20), .ref (q22), .ref (q24), .ref (q26), .ref (q28), .ref (q30), .int 0, .int (-1), .int (-1)])) :: (n_finder x q30 q22 u31)) (((((((((((([] ++ [(q1, n_ar x.cI 48)]) ++ [(q2, n_ar x.cI 7)]) ++ n_slope x q3 u4) ++ n_held x q5 u6) ++ n_held x q7 u8) ++ ([(q9, .inl (x.cL, 5, .inr (.inr (.inr (.inr (fun i => some ([q10, q12, q14, q16, q18].getD i 0)))))))] ++ [(q10, .inr (4, []))] ++ [(q12, .inr (8, []))] ++ [(q14, .inr (3, []))] ++ [(q16, .inr (0, []))] ++ [(q18, .inr (7, []))])) ++ n_ways x q20 ((u6 0)) u21) ++ n_ways x q22 ((u6 0)) u23) ++ n_study x q24 ((u6 0)) q20 u25) ++ n_finder x q26 q20 u27) ++ n_finder x q28 q20 u29) ++ Y) H := hH
  have hH : n_H x [(h, .inr (10, [.ref (q1), .int 0, .ref (q2), .ref (q3), .ref (q5), .ref (q7), .int 0, .ref (q9), .ref (q20), .ref (q22), .ref (q24), .ref (q26), .ref (q28), .ref (q30), .int 0, .int (-1), .int (-1)]))] ((((((((((((([] ++ [(q1, n_ar x.cI 48)]) ++ [(q2, n_ar x.cI 7)]) ++ n_slope x q3 u4) ++ n_held x q5 u6) ++ n_held x q7 u8) ++ ([(q9, .inl (x.cL, 5, .inr (.inr (.inr (.inr (fun i => some ([q10, q12, q14, q16, q18].getD i 0)))))))] ++ [(q10, .inr (4, []))] ++ [(q12, .inr (8, []))] ++ [(q14, .inr (3, []))] ++ [(q16, .inr (0, []))] ++ [(q18, .inr (7, []))])) ++ n_ways x q20 ((u6 0)) u21) ++ n_ways x q22 ((u6 0)) u23) ++ n_study x q24 ((u6 0)) q20 u25) ++ n_finder x q26 q20 u27) ++ n_finder x q28 q20 u29) ++ n_finder x q30 q22 u31) ++ Y) H := n_push hH
  refine W.widen (k := 96) (n := 2734) (by omega) (by omega) ?_
  have hH : n_H x ((h, .inr (10, [.ref (q1), .int 0, .ref (q2), .ref (q3), .ref (q5), .ref (q7), .int 0, .ref (q9), .ref (q20), .ref (q22), .ref (q24), .ref (q26), .ref (q28), .ref (q30), .int 0, .int (-1), .int (-1)])) :: ((((((((((((([] ++ [(q1, n_ar x.cI 48)]) ++ [(q2, n_ar x.cI 7)]) ++ n_slope x q3 u4) ++ n_held x q5 u6) ++ n_held x q7 u8) ++ ([(q9, .inl (x.cL, 5, .inr (.inr (.inr (.inr (fun i => some ([q10, q12, q14, q16, q18].getD i 0)))))))] ++ [(q10, .inr (4, []))] ++ [(q12, .inr (8, []))] ++ [(q14, .inr (3, []))] ++ [(q16, .inr (0, []))] ++ [(q18, .inr (7, []))])) ++ n_ways x q20 ((u6 0)) u21) ++ n_ways x q22 ((u6 0)) u23) ++ n_study x q24 ((u6 0)) q20 u25) ++ n_finder x q26 q20 u27) ++ n_finder x q28 q20 u29) ++ n_finder x q30 q22 u31))) Y H := hH
  exact kk (fun k => [q1, q2, q3, u4 0, u4 1, u4 2, u4 3, u4 4, u4 5, q5, u6 0, u6 1, u6 2, u6 3, u6 4, u6 5, u6 6, u6 7, u6 8, u6 9, u6 10, u6 11, u6 12, q7, u8 0, u8 1, u8 2, u8 3, u8 4, u8 5, u8 6, u8 7, u8 8, u8 9, u8 10, u8 11, u8 12, q9, q10, q12, q14, q16, q18, q20, u21 0, u21 1, u21 2, u21 3, u21 4, u21 5, u21 6, u21 7, u21 8, q22, u23 0, u23 1, u23 2, u23 3, u23 4, u23 5, u23 6, u23 7, u23 8, q24, u25 0, u25 1, u25 2, u25 3, u25 4, u25 5, u25 6, u25 7, u25 8, u25 9, u25 10, u25 11, u25 12, u25 13, u25 14, u25 15, u25 16, u25 17, u25 18, u25 19, u25 20, u25 21, u25 22, q26, u27 0, u27 1, q28, u29 0, u29 1, q30, u31 0, u31 1].getD k 0) _ _ _ _ hH hS nD_X11_224
