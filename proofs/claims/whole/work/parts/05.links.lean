theorem q_in {w : Cond} (k : Nat) (h : lw_tbl[k]? = some w) (hg : goodWord w = true) : w ∈ goodTbl := List.mem_filter.mpr ⟨List.mem_of_getElem? h, hg⟩
theorem ingX0 : ∀ w ∈ u_ws RX0 TX0 0, w ∈ goodTbl := fun w h => List.mem_filter.mpr ⟨inX0 w h, (show ∀ w ∈ u_ws RX0 TX0 0, goodWord w = true by decide +kernel) w h⟩
theorem ingX1 : ∀ w ∈ u_ws RX1 TX1 6, w ∈ goodTbl := fun w h => List.mem_filter.mpr ⟨inX1 w h, (show ∀ w ∈ u_ws RX1 TX1 6, goodWord w = true by decide +kernel) w h⟩
theorem ingX2 : ∀ w ∈ u_ws RX2 TX2 8, w ∈ goodTbl := fun w h => List.mem_filter.mpr ⟨inX2 w h, (show ∀ w ∈ u_ws RX2 TX2 8, goodWord w = true by decide +kernel) w h⟩
theorem ingX4 : ∀ w ∈ u_ws RX4 TX4 0, w ∈ goodTbl := fun w h => List.mem_filter.mpr ⟨inX4 w h, (show ∀ w ∈ u_ws RX4 TX4 0, goodWord w = true by decide +kernel) w h⟩
theorem ingX5 : ∀ w ∈ u_ws RX5 TX5 0, w ∈ goodTbl := fun w h => List.mem_filter.mpr ⟨inX5 w h, (show ∀ w ∈ u_ws RX5 TX5 0, goodWord w = true by decide +kernel) w h⟩
theorem ingX6 : ∀ w ∈ u_ws RX6 TX6 12, w ∈ goodTbl := fun w h => List.mem_filter.mpr ⟨inX6 w h, (show ∀ w ∈ u_ws RX6 TX6 12, goodWord w = true by decide +kernel) w h⟩
theorem ingX7 : ∀ w ∈ u_ws RX7 TX7 9, w ∈ goodTbl := fun w h => List.mem_filter.mpr ⟨inX7 w h, (show ∀ w ∈ u_ws RX7 TX7 9, goodWord w = true by decide +kernel) w h⟩
theorem ingX8 : ∀ w ∈ u_ws RX8 TX8 0, w ∈ goodTbl := fun w h => List.mem_filter.mpr ⟨inX8 w h, (show ∀ w ∈ u_ws RX8 TX8 0, goodWord w = true by decide +kernel) w h⟩
theorem ingX9 : ∀ w ∈ u_ws RX9 TX9 0, w ∈ goodTbl := fun w h => List.mem_filter.mpr ⟨inX9 w h, (show ∀ w ∈ u_ws RX9 TX9 0, goodWord w = true by decide +kernel) w h⟩
theorem ingX10 : ∀ w ∈ u_ws RX10 TX10 5, w ∈ goodTbl := fun w h => List.mem_filter.mpr ⟨inX10 w h, (show ∀ w ∈ u_ws RX10 TX10 5, goodWord w = true by decide +kernel) w h⟩
theorem ingX11 : ∀ w ∈ u_ws RX11 TX11 17, w ∈ goodTbl := fun w h => List.mem_filter.mpr ⟨inX11 w h, (show ∀ w ∈ u_ws RX11 TX11 17, goodWord w = true by decide +kernel) w h⟩
theorem ingX12 : ∀ w ∈ u_ws RX12 TX12 28, w ∈ goodTbl := fun w h => List.mem_filter.mpr ⟨inX12 w h, (show ∀ w ∈ u_ws RX12 TX12 28, goodWord w = true by decide +kernel) w h⟩
theorem lf_X1_18 : Cond.fieldLink "NeverCross$Finder" 18 "NeverCross$Finder" "ways" "LNeverCross$Ways;" ∈ goodTbl := q_in 302 (by decide +kernel) rfl
theorem fg1_18 : q_fok 1 18 1 1 := ⟨RX1, TX1, 6, rfl, ingX1, Nat.le_of_ble_eq_true rfl, rfl, lf_X1_18⟩
theorem lf_X1_22 : Cond.fieldLink "NeverCross$Finder" 22 "NeverCross$Ways" "doors" "I" ∈ goodTbl := q_in 232 (by decide +kernel) rfl
theorem fg1_22 : q_fok 1 22 9 1 := ⟨RX10, TX10, 5, rfl, ingX10, Nat.le_of_ble_eq_true rfl, rfl, lf_X1_22⟩
theorem lf_X1_15 : Cond.fieldLink "NeverCross$Finder" 15 "NeverCross$Finder" "open" "[I" ∈ goodTbl := q_in 303 (by decide +kernel) rfl
theorem fg1_15 : q_fok 1 15 1 2 := ⟨RX1, TX1, 6, rfl, ingX1, Nat.le_of_ble_eq_true rfl, rfl, lf_X1_15⟩
theorem lf_X1_34 : Cond.fieldLink "NeverCross$Finder" 34 "NeverCross$Finder" "needed" "I" ∈ goodTbl := q_in 304 (by decide +kernel) rfl
theorem fp1_34 : q_pok 1 34 1 3 .int := ⟨RX1, TX1, 6, tyX1, rfl, ingX1, Nat.le_of_ble_eq_true rfl, rfl, lf_X1_34, tyX1_ok, nmX1, rfl, rfl⟩
theorem lf_X1_37 : Cond.fieldLink "NeverCross$Finder" 37 "NeverCross$Finder" "stop" "I" ∈ goodTbl := q_in 305 (by decide +kernel) rfl
theorem fp1_37 : q_pok 1 37 1 4 .int := ⟨RX1, TX1, 6, tyX1, rfl, ingX1, Nat.le_of_ble_eq_true rfl, rfl, lf_X1_37, tyX1_ok, nmX1, rfl, rfl⟩
theorem lf_X1_40 : Cond.fieldLink "NeverCross$Finder" 40 "NeverCross$Finder" "met" "I" ∈ goodTbl := q_in 306 (by decide +kernel) rfl
theorem fp1_40 : q_pok 1 40 1 5 .int := ⟨RX1, TX1, 6, tyX1, rfl, ingX1, Nat.le_of_ble_eq_true rfl, rfl, lf_X1_40, tyX1_ok, nmX1, rfl, rfl⟩
theorem fg1_40 : q_fok 1 40 1 5 := ⟨RX1, TX1, 6, rfl, ingX1, Nat.le_of_ble_eq_true rfl, rfl, lf_X1_40⟩
theorem fg2_18 : q_fok 2 18 1 1 := ⟨RX1, TX1, 6, rfl, ingX1, Nat.le_of_ble_eq_true rfl, rfl, lf_X1_18⟩
theorem fg2_22 : q_fok 2 22 9 1 := ⟨RX10, TX10, 5, rfl, ingX10, Nat.le_of_ble_eq_true rfl, rfl, lf_X1_22⟩
theorem fg2_34 : q_fok 2 34 1 3 := ⟨RX1, TX1, 6, rfl, ingX1, Nat.le_of_ble_eq_true rfl, rfl, lf_X1_34⟩
theorem fg2_40 : q_fok 2 40 1 5 := ⟨RX1, TX1, 6, rfl, ingX1, Nat.le_of_ble_eq_true rfl, rfl, lf_X1_40⟩
theorem fp2_40 : q_pok 2 40 1 5 .int := ⟨RX1, TX1, 6, tyX1, rfl, ingX1, Nat.le_of_ble_eq_true rfl, rfl, lf_X1_40, tyX1_ok, nmX1, rfl, rfl⟩
theorem lf_X1_47 : Cond.fieldLink "NeverCross$Finder" 47 "NeverCross$Ways" "sizes" "[I" ∈ goodTbl := q_in 237 (by decide +kernel) rfl
theorem fg2_47 : q_fok 2 47 9 2 := ⟨RX10, TX10, 5, rfl, ingX10, Nat.le_of_ble_eq_true rfl, rfl, lf_X1_47⟩
theorem fg2_37 : q_fok 2 37 1 4 := ⟨RX1, TX1, 6, rfl, ingX1, Nat.le_of_ble_eq_true rfl, rfl, lf_X1_37⟩
theorem lf_X1_50 : Cond.fieldLink "NeverCross$Finder" 50 "NeverCross$Ways" "cells" "[[I" ∈ goodTbl := q_in 240 (by decide +kernel) rfl
theorem fg2_50 : q_fok 2 50 9 3 := ⟨RX10, TX10, 5, rfl, ingX10, Nat.le_of_ble_eq_true rfl, rfl, lf_X1_50⟩
theorem fg2_15 : q_fok 2 15 1 2 := ⟨RX1, TX1, 6, rfl, ingX1, Nat.le_of_ble_eq_true rfl, rfl, lf_X1_15⟩
theorem lf_X1_54 : Cond.fieldLink "NeverCross$Finder" 54 "NeverCross$Ways" "wells" "[[I" ∈ goodTbl := q_in 242 (by decide +kernel) rfl
theorem fg2_54 : q_fok 2 54 9 4 := ⟨RX10, TX10, 5, rfl, ingX10, Nat.le_of_ble_eq_true rfl, rfl, lf_X1_54⟩
theorem lf_X1_9 : Cond.fieldLink "NeverCross$Finder" 9 "NeverCross$Finder" "picked" "[I" ∈ goodTbl := q_in 300 (by decide +kernel) rfl
theorem fg2_9 : q_fok 2 9 1 0 := ⟨RX1, TX1, 6, rfl, ingX1, Nat.le_of_ble_eq_true rfl, rfl, lf_X1_9⟩
theorem lf_X2_12 : Cond.fieldLink "NeverCross$Held" 12 "NeverCross$Held" "slope" "LNeverCross$Slope;" ∈ goodTbl := q_in 151 (by decide +kernel) rfl
theorem fg3_12 : q_fok 3 12 2 0 := ⟨RX2, TX2, 8, rfl, ingX2, Nat.le_of_ble_eq_true rfl, rfl, lf_X2_12⟩
theorem lf_X2_38 : Cond.fieldLink "NeverCross$Held" 38 "NeverCross$Held" "slopeNumber" "I" ∈ goodTbl := q_in 153 (by decide +kernel) rfl
theorem fg3_38 : q_fok 3 38 2 1 := ⟨RX2, TX2, 8, rfl, ingX2, Nat.le_of_ble_eq_true rfl, rfl, lf_X2_38⟩
theorem fp3_38 : q_pok 3 38 2 1 .int := ⟨RX2, TX2, 8, tyX2, rfl, ingX2, Nat.le_of_ble_eq_true rfl, rfl, lf_X2_38, tyX2_ok, nmX2, rfl, rfl⟩
theorem lf_X2_18 : Cond.fieldLink "NeverCross$Held" 18 "NeverCross$Held" "law" "I" ∈ goodTbl := q_in 155 (by decide +kernel) rfl
theorem fg3_18 : q_fok 3 18 2 2 := ⟨RX2, TX2, 8, rfl, ingX2, Nat.le_of_ble_eq_true rfl, rfl, lf_X2_18⟩
theorem fp3_18 : q_pok 3 18 2 2 .int := ⟨RX2, TX2, 8, tyX2, rfl, ingX2, Nat.le_of_ble_eq_true rfl, rfl, lf_X2_18, tyX2_ok, nmX2, rfl, rfl⟩
theorem lf_X2_41 : Cond.fieldLink "NeverCross$Held" 41 "NeverCross$Held" "told" "I" ∈ goodTbl := q_in 157 (by decide +kernel) rfl
theorem fg3_41 : q_fok 3 41 2 3 := ⟨RX2, TX2, 8, rfl, ingX2, Nat.le_of_ble_eq_true rfl, rfl, lf_X2_41⟩
theorem fp3_41 : q_pok 3 41 2 3 .int := ⟨RX2, TX2, 8, tyX2, rfl, ingX2, Nat.le_of_ble_eq_true rfl, rfl, lf_X2_41, tyX2_ok, nmX2, rfl, rfl⟩
theorem lf_X2_44 : Cond.fieldLink "NeverCross$Held" 44 "NeverCross$Held" "seenCells" "I" ∈ goodTbl := q_in 159 (by decide +kernel) rfl
theorem fg3_44 : q_fok 3 44 2 4 := ⟨RX2, TX2, 8, rfl, ingX2, Nat.le_of_ble_eq_true rfl, rfl, lf_X2_44⟩
theorem fp3_44 : q_pok 3 44 2 4 .int := ⟨RX2, TX2, 8, tyX2, rfl, ingX2, Nat.le_of_ble_eq_true rfl, rfl, lf_X2_44, tyX2_ok, nmX2, rfl, rfl⟩
theorem lf_X2_22 : Cond.fieldLink "NeverCross$Held" 22 "NeverCross$Held" "seen" "[I" ∈ goodTbl := q_in 161 (by decide +kernel) rfl
theorem fg3_22 : q_fok 3 22 2 5 := ⟨RX2, TX2, 8, rfl, ingX2, Nat.le_of_ble_eq_true rfl, rfl, lf_X2_22⟩
theorem lf_X2_26 : Cond.fieldLink "NeverCross$Held" 26 "NeverCross$Held" "lengths" "[I" ∈ goodTbl := q_in 163 (by decide +kernel) rfl
theorem fg3_26 : q_fok 3 26 2 6 := ⟨RX2, TX2, 8, rfl, ingX2, Nat.le_of_ble_eq_true rfl, rfl, lf_X2_26⟩
theorem lf_X2_31 : Cond.fieldLink "NeverCross$Held" 31 "NeverCross$Held" "steps" "[[I" ∈ goodTbl := q_in 165 (by decide +kernel) rfl
theorem fg3_31 : q_fok 3 31 2 7 := ⟨RX2, TX2, 8, rfl, ingX2, Nat.le_of_ble_eq_true rfl, rfl, lf_X2_31⟩
theorem fg4_12 : q_fok 4 12 2 0 := ⟨RX2, TX2, 8, rfl, ingX2, Nat.le_of_ble_eq_true rfl, rfl, lf_X2_12⟩
theorem fp4_38 : q_pok 4 38 2 1 .int := ⟨RX2, TX2, 8, tyX2, rfl, ingX2, Nat.le_of_ble_eq_true rfl, rfl, lf_X2_38, tyX2_ok, nmX2, rfl, rfl⟩
theorem lf_X2_53 : Cond.fieldLink "NeverCross$Held" 53 "NeverCross$Slope" "doors" "I" ∈ goodTbl := q_in 100 (by decide +kernel) rfl
theorem fg4_53 : q_fok 4 53 5 4 := ⟨RX6, TX6, 12, rfl, ingX6, Nat.le_of_ble_eq_true rfl, rfl, lf_X2_53⟩
theorem fp4_41 : q_pok 4 41 2 3 .int := ⟨RX2, TX2, 8, tyX2, rfl, ingX2, Nat.le_of_ble_eq_true rfl, rfl, lf_X2_41, tyX2_ok, nmX2, rfl, rfl⟩
theorem fg5_26 : q_fok 5 26 2 6 := ⟨RX2, TX2, 8, rfl, ingX2, Nat.le_of_ble_eq_true rfl, rfl, lf_X2_26⟩
theorem fp5_44 : q_pok 5 44 2 4 .int := ⟨RX2, TX2, 8, tyX2, rfl, ingX2, Nat.le_of_ble_eq_true rfl, rfl, lf_X2_44, tyX2_ok, nmX2, rfl, rfl⟩
theorem fg6_44 : q_fok 6 44 2 4 := ⟨RX2, TX2, 8, rfl, ingX2, Nat.le_of_ble_eq_true rfl, rfl, lf_X2_44⟩
theorem fg6_22 : q_fok 6 22 2 5 := ⟨RX2, TX2, 8, rfl, ingX2, Nat.le_of_ble_eq_true rfl, rfl, lf_X2_22⟩
theorem fg7_12 : q_fok 7 12 2 0 := ⟨RX2, TX2, 8, rfl, ingX2, Nat.le_of_ble_eq_true rfl, rfl, lf_X2_12⟩
theorem fg7_53 : q_fok 7 53 5 4 := ⟨RX6, TX6, 12, rfl, ingX6, Nat.le_of_ble_eq_true rfl, rfl, lf_X2_53⟩
theorem fg7_26 : q_fok 7 26 2 6 := ⟨RX2, TX2, 8, rfl, ingX2, Nat.le_of_ble_eq_true rfl, rfl, lf_X2_26⟩
theorem fg7_31 : q_fok 7 31 2 7 := ⟨RX2, TX2, 8, rfl, ingX2, Nat.le_of_ble_eq_true rfl, rfl, lf_X2_31⟩
theorem fg8_12 : q_fok 8 12 2 0 := ⟨RX2, TX2, 8, rfl, ingX2, Nat.le_of_ble_eq_true rfl, rfl, lf_X2_12⟩
theorem fg8_26 : q_fok 8 26 2 6 := ⟨RX2, TX2, 8, rfl, ingX2, Nat.le_of_ble_eq_true rfl, rfl, lf_X2_26⟩
theorem fg8_31 : q_fok 8 31 2 7 := ⟨RX2, TX2, 8, rfl, ingX2, Nat.le_of_ble_eq_true rfl, rfl, lf_X2_31⟩
theorem fg9_12 : q_fok 9 12 2 0 := ⟨RX2, TX2, 8, rfl, ingX2, Nat.le_of_ble_eq_true rfl, rfl, lf_X2_12⟩
theorem fg9_26 : q_fok 9 26 2 6 := ⟨RX2, TX2, 8, rfl, ingX2, Nat.le_of_ble_eq_true rfl, rfl, lf_X2_26⟩
theorem fg9_31 : q_fok 9 31 2 7 := ⟨RX2, TX2, 8, rfl, ingX2, Nat.le_of_ble_eq_true rfl, rfl, lf_X2_31⟩
theorem fg10_12 : q_fok 10 12 2 0 := ⟨RX2, TX2, 8, rfl, ingX2, Nat.le_of_ble_eq_true rfl, rfl, lf_X2_12⟩
theorem fg10_53 : q_fok 10 53 5 4 := ⟨RX6, TX6, 12, rfl, ingX6, Nat.le_of_ble_eq_true rfl, rfl, lf_X2_53⟩
theorem lf_X2_74 : Cond.fieldLink "NeverCross$Held" 74 "NeverCross$Slope" "cells" "I" ∈ goodTbl := q_in 94 (by decide +kernel) rfl
theorem fg10_74 : q_fok 10 74 5 2 := ⟨RX6, TX6, 12, rfl, ingX6, Nat.le_of_ble_eq_true rfl, rfl, lf_X2_74⟩
theorem lf_X6_30 : Cond.fieldLink "NeverCross$Slope" 30 "NeverCross$Slope" "rows" "I" ∈ goodTbl := q_in 87 (by decide +kernel) rfl
theorem fg15_30 : q_fok 15 30 5 0 := ⟨RX6, TX6, 12, rfl, ingX6, Nat.le_of_ble_eq_true rfl, rfl, lf_X6_30⟩
theorem fp15_30 : q_pok 15 30 5 0 .int := ⟨RX6, TX6, 12, tyX6, rfl, ingX6, Nat.le_of_ble_eq_true rfl, rfl, lf_X6_30, tyX6_ok, nmX6, rfl, rfl⟩
theorem lf_X6_34 : Cond.fieldLink "NeverCross$Slope" 34 "NeverCross$Slope" "columns" "I" ∈ goodTbl := q_in 89 (by decide +kernel) rfl
theorem fg15_34 : q_fok 15 34 5 1 := ⟨RX6, TX6, 12, rfl, ingX6, Nat.le_of_ble_eq_true rfl, rfl, lf_X6_34⟩
theorem fp15_34 : q_pok 15 34 5 1 .int := ⟨RX6, TX6, 12, tyX6, rfl, ingX6, Nat.le_of_ble_eq_true rfl, rfl, lf_X6_34, tyX6_ok, nmX6, rfl, rfl⟩
theorem lf_X6_37 : Cond.fieldLink "NeverCross$Slope" 37 "NeverCross$Slope" "cells" "I" ∈ goodTbl := q_in 91 (by decide +kernel) rfl
theorem fg15_37 : q_fok 15 37 5 2 := ⟨RX6, TX6, 12, rfl, ingX6, Nat.le_of_ble_eq_true rfl, rfl, lf_X6_37⟩
theorem fp15_37 : q_pok 15 37 5 2 .int := ⟨RX6, TX6, 12, tyX6, rfl, ingX6, Nat.le_of_ble_eq_true rfl, rfl, lf_X6_37, tyX6_ok, nmX6, rfl, rfl⟩
theorem lf_X6_40 : Cond.fieldLink "NeverCross$Slope" 40 "NeverCross$Slope" "stones" "I" ∈ goodTbl := q_in 95 (by decide +kernel) rfl
theorem fg15_40 : q_fok 15 40 5 3 := ⟨RX6, TX6, 12, rfl, ingX6, Nat.le_of_ble_eq_true rfl, rfl, lf_X6_40⟩
theorem fp15_40 : q_pok 15 40 5 3 .int := ⟨RX6, TX6, 12, tyX6, rfl, ingX6, Nat.le_of_ble_eq_true rfl, rfl, lf_X6_40, tyX6_ok, nmX6, rfl, rfl⟩
theorem lf_X6_43 : Cond.fieldLink "NeverCross$Slope" 43 "NeverCross$Slope" "doors" "I" ∈ goodTbl := q_in 98 (by decide +kernel) rfl
theorem fg15_43 : q_fok 15 43 5 4 := ⟨RX6, TX6, 12, rfl, ingX6, Nat.le_of_ble_eq_true rfl, rfl, lf_X6_43⟩
theorem fp15_43 : q_pok 15 43 5 4 .int := ⟨RX6, TX6, 12, tyX6, rfl, ingX6, Nat.le_of_ble_eq_true rfl, rfl, lf_X6_43, tyX6_ok, nmX6, rfl, rfl⟩
theorem lf_X6_9 : Cond.fieldLink "NeverCross$Slope" 9 "NeverCross$Slope" "kind" "[I" ∈ goodTbl := q_in 102 (by decide +kernel) rfl
theorem fg15_9 : q_fok 15 9 5 5 := ⟨RX6, TX6, 12, rfl, ingX6, Nat.le_of_ble_eq_true rfl, rfl, lf_X6_9⟩
theorem lf_X6_15 : Cond.fieldLink "NeverCross$Slope" 15 "NeverCross$Slope" "cost" "[I" ∈ goodTbl := q_in 105 (by decide +kernel) rfl
theorem fg15_15 : q_fok 15 15 5 6 := ⟨RX6, TX6, 12, rfl, ingX6, Nat.le_of_ble_eq_true rfl, rfl, lf_X6_15⟩
theorem lf_X6_18 : Cond.fieldLink "NeverCross$Slope" 18 "NeverCross$Slope" "number" "[I" ∈ goodTbl := q_in 108 (by decide +kernel) rfl
theorem fg15_18 : q_fok 15 18 5 7 := ⟨RX6, TX6, 12, rfl, ingX6, Nat.le_of_ble_eq_true rfl, rfl, lf_X6_18⟩
theorem lf_X6_21 : Cond.fieldLink "NeverCross$Slope" 21 "NeverCross$Slope" "doorAt" "[I" ∈ goodTbl := q_in 111 (by decide +kernel) rfl
theorem fg15_21 : q_fok 15 21 5 8 := ⟨RX6, TX6, 12, rfl, ingX6, Nat.le_of_ble_eq_true rfl, rfl, lf_X6_21⟩
theorem lf_X6_24 : Cond.fieldLink "NeverCross$Slope" 24 "NeverCross$Slope" "wellAt" "[I" ∈ goodTbl := q_in 112 (by decide +kernel) rfl
theorem fg15_24 : q_fok 15 24 5 9 := ⟨RX6, TX6, 12, rfl, ingX6, Nat.le_of_ble_eq_true rfl, rfl, lf_X6_24⟩
theorem fg16_30 : q_fok 16 30 5 0 := ⟨RX6, TX6, 12, rfl, ingX6, Nat.le_of_ble_eq_true rfl, rfl, lf_X6_30⟩
theorem lf_X6_69 : Cond.fieldLink "NeverCross$Slope" 69 "NeverCross$Slope" "inRow" "I" ∈ goodTbl := q_in 114 (by decide +kernel) rfl
theorem fg16_69 : q_fok 16 69 5 11 := ⟨RX6, TX6, 12, rfl, ingX6, Nat.le_of_ble_eq_true rfl, rfl, lf_X6_69⟩
theorem fg16_34 : q_fok 16 34 5 1 := ⟨RX6, TX6, 12, rfl, ingX6, Nat.le_of_ble_eq_true rfl, rfl, lf_X6_34⟩
theorem fp16_30 : q_pok 16 30 5 0 .int := ⟨RX6, TX6, 12, tyX6, rfl, ingX6, Nat.le_of_ble_eq_true rfl, rfl, lf_X6_30, tyX6_ok, nmX6, rfl, rfl⟩
theorem fp17_30 : q_pok 17 30 5 0 .int := ⟨RX6, TX6, 12, tyX6, rfl, ingX6, Nat.le_of_ble_eq_true rfl, rfl, lf_X6_30, tyX6_ok, nmX6, rfl, rfl⟩
theorem fp17_34 : q_pok 17 34 5 1 .int := ⟨RX6, TX6, 12, tyX6, rfl, ingX6, Nat.le_of_ble_eq_true rfl, rfl, lf_X6_34, tyX6_ok, nmX6, rfl, rfl⟩
theorem fp17_37 : q_pok 17 37 5 2 .int := ⟨RX6, TX6, 12, tyX6, rfl, ingX6, Nat.le_of_ble_eq_true rfl, rfl, lf_X6_37, tyX6_ok, nmX6, rfl, rfl⟩
theorem fp17_40 : q_pok 17 40 5 3 .int := ⟨RX6, TX6, 12, tyX6, rfl, ingX6, Nat.le_of_ble_eq_true rfl, rfl, lf_X6_40, tyX6_ok, nmX6, rfl, rfl⟩
theorem fp17_43 : q_pok 17 43 5 4 .int := ⟨RX6, TX6, 12, tyX6, rfl, ingX6, Nat.le_of_ble_eq_true rfl, rfl, lf_X6_43, tyX6_ok, nmX6, rfl, rfl⟩
theorem fp17_69 : q_pok 17 69 5 11 .int := ⟨RX6, TX6, 12, tyX6, rfl, ingX6, Nat.le_of_ble_eq_true rfl, rfl, lf_X6_69, tyX6_ok, nmX6, rfl, rfl⟩
theorem fg17_21 : q_fok 17 21 5 8 := ⟨RX6, TX6, 12, rfl, ingX6, Nat.le_of_ble_eq_true rfl, rfl, lf_X6_21⟩
theorem fg17_24 : q_fok 17 24 5 9 := ⟨RX6, TX6, 12, rfl, ingX6, Nat.le_of_ble_eq_true rfl, rfl, lf_X6_24⟩
theorem fg18_34 : q_fok 18 34 5 1 := ⟨RX6, TX6, 12, rfl, ingX6, Nat.le_of_ble_eq_true rfl, rfl, lf_X6_34⟩
theorem fg18_69 : q_fok 18 69 5 11 := ⟨RX6, TX6, 12, rfl, ingX6, Nat.le_of_ble_eq_true rfl, rfl, lf_X6_69⟩
theorem fg18_30 : q_fok 18 30 5 0 := ⟨RX6, TX6, 12, rfl, ingX6, Nat.le_of_ble_eq_true rfl, rfl, lf_X6_30⟩
theorem fp18_34 : q_pok 18 34 5 1 .int := ⟨RX6, TX6, 12, tyX6, rfl, ingX6, Nat.le_of_ble_eq_true rfl, rfl, lf_X6_34, tyX6_ok, nmX6, rfl, rfl⟩
theorem fp18_30 : q_pok 18 30 5 0 .int := ⟨RX6, TX6, 12, tyX6, rfl, ingX6, Nat.le_of_ble_eq_true rfl, rfl, lf_X6_30, tyX6_ok, nmX6, rfl, rfl⟩
theorem fp18_69 : q_pok 18 69 5 11 .int := ⟨RX6, TX6, 12, tyX6, rfl, ingX6, Nat.le_of_ble_eq_true rfl, rfl, lf_X6_69, tyX6_ok, nmX6, rfl, rfl⟩
theorem fg19_34 : q_fok 19 34 5 1 := ⟨RX6, TX6, 12, rfl, ingX6, Nat.le_of_ble_eq_true rfl, rfl, lf_X6_34⟩
theorem fg19_69 : q_fok 19 69 5 11 := ⟨RX6, TX6, 12, rfl, ingX6, Nat.le_of_ble_eq_true rfl, rfl, lf_X6_69⟩
theorem fg19_37 : q_fok 19 37 5 2 := ⟨RX6, TX6, 12, rfl, ingX6, Nat.le_of_ble_eq_true rfl, rfl, lf_X6_37⟩
theorem fg19_40 : q_fok 19 40 5 3 := ⟨RX6, TX6, 12, rfl, ingX6, Nat.le_of_ble_eq_true rfl, rfl, lf_X6_40⟩
theorem fp19_40 : q_pok 19 40 5 3 .int := ⟨RX6, TX6, 12, tyX6, rfl, ingX6, Nat.le_of_ble_eq_true rfl, rfl, lf_X6_40, tyX6_ok, nmX6, rfl, rfl⟩
theorem fg19_21 : q_fok 19 21 5 8 := ⟨RX6, TX6, 12, rfl, ingX6, Nat.le_of_ble_eq_true rfl, rfl, lf_X6_21⟩
theorem fg19_24 : q_fok 19 24 5 9 := ⟨RX6, TX6, 12, rfl, ingX6, Nat.le_of_ble_eq_true rfl, rfl, lf_X6_24⟩
theorem fg20_37 : q_fok 20 37 5 2 := ⟨RX6, TX6, 12, rfl, ingX6, Nat.le_of_ble_eq_true rfl, rfl, lf_X6_37⟩
theorem fg21_9 : q_fok 21 9 5 5 := ⟨RX6, TX6, 12, rfl, ingX6, Nat.le_of_ble_eq_true rfl, rfl, lf_X6_9⟩
theorem fg21_37 : q_fok 21 37 5 2 := ⟨RX6, TX6, 12, rfl, ingX6, Nat.le_of_ble_eq_true rfl, rfl, lf_X6_37⟩
theorem fg21_15 : q_fok 21 15 5 6 := ⟨RX6, TX6, 12, rfl, ingX6, Nat.le_of_ble_eq_true rfl, rfl, lf_X6_15⟩
theorem fg21_18 : q_fok 21 18 5 7 := ⟨RX6, TX6, 12, rfl, ingX6, Nat.le_of_ble_eq_true rfl, rfl, lf_X6_18⟩
theorem fp21_37 : q_pok 21 37 5 2 .int := ⟨RX6, TX6, 12, tyX6, rfl, ingX6, Nat.le_of_ble_eq_true rfl, rfl, lf_X6_37, tyX6_ok, nmX6, rfl, rfl⟩
theorem fg21_69 : q_fok 21 69 5 11 := ⟨RX6, TX6, 12, rfl, ingX6, Nat.le_of_ble_eq_true rfl, rfl, lf_X6_69⟩
theorem fp21_69 : q_pok 21 69 5 11 .int := ⟨RX6, TX6, 12, tyX6, rfl, ingX6, Nat.le_of_ble_eq_true rfl, rfl, lf_X6_69, tyX6_ok, nmX6, rfl, rfl⟩
theorem fg22_21 : q_fok 22 21 5 8 := ⟨RX6, TX6, 12, rfl, ingX6, Nat.le_of_ble_eq_true rfl, rfl, lf_X6_21⟩
theorem fg22_24 : q_fok 22 24 5 9 := ⟨RX6, TX6, 12, rfl, ingX6, Nat.le_of_ble_eq_true rfl, rfl, lf_X6_24⟩
theorem fg22_43 : q_fok 22 43 5 4 := ⟨RX6, TX6, 12, rfl, ingX6, Nat.le_of_ble_eq_true rfl, rfl, lf_X6_43⟩
theorem fp22_43 : q_pok 22 43 5 4 .int := ⟨RX6, TX6, 12, tyX6, rfl, ingX6, Nat.le_of_ble_eq_true rfl, rfl, lf_X6_43, tyX6_ok, nmX6, rfl, rfl⟩
theorem fg23_37 : q_fok 23 37 5 2 := ⟨RX6, TX6, 12, rfl, ingX6, Nat.le_of_ble_eq_true rfl, rfl, lf_X6_37⟩
theorem fg24_43 : q_fok 24 43 5 4 := ⟨RX6, TX6, 12, rfl, ingX6, Nat.le_of_ble_eq_true rfl, rfl, lf_X6_43⟩
theorem fg25_21 : q_fok 25 21 5 8 := ⟨RX6, TX6, 12, rfl, ingX6, Nat.le_of_ble_eq_true rfl, rfl, lf_X6_21⟩
theorem fg26_24 : q_fok 26 24 5 9 := ⟨RX6, TX6, 12, rfl, ingX6, Nat.le_of_ble_eq_true rfl, rfl, lf_X6_24⟩
theorem fg27_34 : q_fok 27 34 5 1 := ⟨RX6, TX6, 12, rfl, ingX6, Nat.le_of_ble_eq_true rfl, rfl, lf_X6_34⟩
theorem fg27_9 : q_fok 27 9 5 5 := ⟨RX6, TX6, 12, rfl, ingX6, Nat.le_of_ble_eq_true rfl, rfl, lf_X6_9⟩
theorem lf_X6_27 : Cond.fieldLink "NeverCross$Slope" 27 "NeverCross$Slope" "reached" "[I" ∈ goodTbl := q_in 113 (by decide +kernel) rfl
theorem fg28_27 : q_fok 28 27 5 10 := ⟨RX6, TX6, 12, rfl, ingX6, Nat.le_of_ble_eq_true rfl, rfl, lf_X6_27⟩
theorem fg29_34 : q_fok 29 34 5 1 := ⟨RX6, TX6, 12, rfl, ingX6, Nat.le_of_ble_eq_true rfl, rfl, lf_X6_34⟩
theorem lf_X7_40 : Cond.fieldLink "NeverCross$Study" 40 "NeverCross$Study" "most" "I" ∈ goodTbl := q_in 264 (by decide +kernel) rfl
theorem fp30_40 : q_pok 30 40 6 0 .int := ⟨RX7, TX7, 9, tyX7, rfl, ingX7, Nat.le_of_ble_eq_true rfl, rfl, lf_X7_40, tyX7_ok, nmX7, rfl, rfl⟩
theorem lf_X7_44 : Cond.fieldLink "NeverCross$Study" 44 "NeverCross$Study" "shut" "I" ∈ goodTbl := q_in 266 (by decide +kernel) rfl
theorem fp30_44 : q_pok 30 44 6 1 .int := ⟨RX7, TX7, 9, tyX7, rfl, ingX7, Nat.le_of_ble_eq_true rfl, rfl, lf_X7_44, tyX7_ok, nmX7, rfl, rfl⟩
theorem fs30_15 : ∀ U, q_Nw U → va_Nw (.fieldLinkNest (q_mY 30).cls 15 "NeverCross" (q_sn 0) "[I" "NeverCross") U := fun U h => h.1
theorem lf_X7_18 : Cond.fieldLink "NeverCross$Study" 18 "NeverCross$Study" "families" "[I" ∈ goodTbl := q_in 271 (by decide +kernel) rfl
theorem fg30_18 : q_fok 30 18 6 5 := ⟨RX7, TX7, 9, rfl, ingX7, Nat.le_of_ble_eq_true rfl, rfl, lf_X7_18⟩
theorem lf_X7_21 : Cond.fieldLink "NeverCross$Study" 21 "NeverCross$Study" "leastCost" "[I" ∈ goodTbl := q_in 272 (by decide +kernel) rfl
theorem fg30_21 : q_fok 30 21 6 6 := ⟨RX7, TX7, 9, rfl, ingX7, Nat.le_of_ble_eq_true rfl, rfl, lf_X7_21⟩
theorem lf_X7_26 : Cond.fieldLink "NeverCross$Study" 26 "NeverCross$Study" "through" "[[I" ∈ goodTbl := q_in 273 (by decide +kernel) rfl
theorem fg30_26 : q_fok 30 26 6 7 := ⟨RX7, TX7, 9, rfl, ingX7, Nat.le_of_ble_eq_true rfl, rfl, lf_X7_26⟩
theorem lf_X7_29 : Cond.fieldLink "NeverCross$Study" 29 "NeverCross$Study" "who" "[[I" ∈ goodTbl := q_in 274 (by decide +kernel) rfl
theorem fg30_29 : q_fok 30 29 6 8 := ⟨RX7, TX7, 9, rfl, ingX7, Nat.le_of_ble_eq_true rfl, rfl, lf_X7_29⟩
theorem lf_X7_32 : Cond.fieldLink "NeverCross$Study" 32 "NeverCross$Study" "slope" "LNeverCross$Slope;" ∈ goodTbl := q_in 268 (by decide +kernel) rfl
theorem fg30_32 : q_fok 30 32 6 2 := ⟨RX7, TX7, 9, rfl, ingX7, Nat.le_of_ble_eq_true rfl, rfl, lf_X7_32⟩
theorem lf_X7_57 : Cond.fieldLink "NeverCross$Study" 57 "NeverCross$Slope" "doors" "I" ∈ goodTbl := q_in 99 (by decide +kernel) rfl
theorem fg30_57 : q_fok 30 57 5 4 := ⟨RX6, TX6, 12, rfl, ingX6, Nat.le_of_ble_eq_true rfl, rfl, lf_X7_57⟩
theorem fg30_44 : q_fok 30 44 6 1 := ⟨RX7, TX7, 9, rfl, ingX7, Nat.le_of_ble_eq_true rfl, rfl, lf_X7_44⟩
theorem lf_X7_36 : Cond.fieldLink "NeverCross$Study" 36 "NeverCross$Study" "ways" "LNeverCross$Ways;" ∈ goodTbl := q_in 269 (by decide +kernel) rfl
theorem fg31_36 : q_fok 31 36 6 3 := ⟨RX7, TX7, 9, rfl, ingX7, Nat.le_of_ble_eq_true rfl, rfl, lf_X7_36⟩
theorem lf_X7_69 : Cond.fieldLink "NeverCross$Study" 69 "NeverCross$Ways" "doors" "I" ∈ goodTbl := q_in 234 (by decide +kernel) rfl
theorem fg31_69 : q_fok 31 69 9 1 := ⟨RX10, TX10, 5, rfl, ingX10, Nat.le_of_ble_eq_true rfl, rfl, lf_X7_69⟩
theorem lf_X7_76 : Cond.fieldLink "NeverCross$Study" 76 "NeverCross$Ways" "sizes" "[I" ∈ goodTbl := q_in 236 (by decide +kernel) rfl
theorem fg31_76 : q_fok 31 76 9 2 := ⟨RX10, TX10, 5, rfl, ingX10, Nat.le_of_ble_eq_true rfl, rfl, lf_X7_76⟩
theorem lf_X7_79 : Cond.fieldLink "NeverCross$Study" 79 "NeverCross$Ways" "cells" "[[I" ∈ goodTbl := q_in 239 (by decide +kernel) rfl
theorem fg31_79 : q_fok 31 79 9 3 := ⟨RX10, TX10, 5, rfl, ingX10, Nat.le_of_ble_eq_true rfl, rfl, lf_X7_79⟩
theorem lf_X7_9 : Cond.fieldLink "NeverCross$Study" 9 "NeverCross$Study" "picked" "[I" ∈ goodTbl := q_in 270 (by decide +kernel) rfl
theorem fg31_9 : q_fok 31 9 6 4 := ⟨RX7, TX7, 9, rfl, ingX7, Nat.le_of_ble_eq_true rfl, rfl, lf_X7_9⟩
theorem fs31_82 : ∀ U, q_Nw U → va_Nw (.fieldLinkNest (q_mY 31).cls 82 "NeverCross" (q_sn 2) "[I" "NeverCross") U := fun U h => h.2.2.2.2.1
theorem lf_X7_85 : Cond.fieldLink "NeverCross$Study" 85 "NeverCross$Ways" "wells" "[[I" ∈ goodTbl := q_in 243 (by decide +kernel) rfl
theorem fg31_85 : q_fok 31 85 9 4 := ⟨RX10, TX10, 5, rfl, ingX10, Nat.le_of_ble_eq_true rfl, rfl, lf_X7_85⟩
theorem fg32_40 : q_fok 32 40 6 0 := ⟨RX7, TX7, 9, rfl, ingX7, Nat.le_of_ble_eq_true rfl, rfl, lf_X7_40⟩
theorem fp32_40 : q_pok 32 40 6 0 .int := ⟨RX7, TX7, 9, tyX7, rfl, ingX7, Nat.le_of_ble_eq_true rfl, rfl, lf_X7_40, tyX7_ok, nmX7, rfl, rfl⟩
theorem fp32_44 : q_pok 32 44 6 1 .int := ⟨RX7, TX7, 9, tyX7, rfl, ingX7, Nat.le_of_ble_eq_true rfl, rfl, lf_X7_44, tyX7_ok, nmX7, rfl, rfl⟩
theorem fg32_44 : q_fok 32 44 6 1 := ⟨RX7, TX7, 9, rfl, ingX7, Nat.le_of_ble_eq_true rfl, rfl, lf_X7_44⟩
theorem fg32_36 : q_fok 32 36 6 3 := ⟨RX7, TX7, 9, rfl, ingX7, Nat.le_of_ble_eq_true rfl, rfl, lf_X7_36⟩
theorem fg32_69 : q_fok 32 69 9 1 := ⟨RX10, TX10, 5, rfl, ingX10, Nat.le_of_ble_eq_true rfl, rfl, lf_X7_69⟩
theorem fg33_32 : q_fok 33 32 6 2 := ⟨RX7, TX7, 9, rfl, ingX7, Nat.le_of_ble_eq_true rfl, rfl, lf_X7_32⟩
theorem lf_X7_96 : Cond.fieldLink "NeverCross$Study" 96 "NeverCross$Slope" "cells" "I" ∈ goodTbl := q_in 93 (by decide +kernel) rfl
theorem fg33_96 : q_fok 33 96 5 2 := ⟨RX6, TX6, 12, rfl, ingX6, Nat.le_of_ble_eq_true rfl, rfl, lf_X7_96⟩
theorem lf_X7_102 : Cond.fieldLink "NeverCross$Study" 102 "NeverCross$Slope" "cost" "[I" ∈ goodTbl := q_in 107 (by decide +kernel) rfl
theorem fg33_102 : q_fok 33 102 5 6 := ⟨RX6, TX6, 12, rfl, ingX6, Nat.le_of_ble_eq_true rfl, rfl, lf_X7_102⟩
theorem fg33_26 : q_fok 33 26 6 7 := ⟨RX7, TX7, 9, rfl, ingX7, Nat.le_of_ble_eq_true rfl, rfl, lf_X7_26⟩
theorem fg33_29 : q_fok 33 29 6 8 := ⟨RX7, TX7, 9, rfl, ingX7, Nat.le_of_ble_eq_true rfl, rfl, lf_X7_29⟩
theorem fg33_18 : q_fok 33 18 6 5 := ⟨RX7, TX7, 9, rfl, ingX7, Nat.le_of_ble_eq_true rfl, rfl, lf_X7_18⟩
theorem fg33_21 : q_fok 33 21 6 6 := ⟨RX7, TX7, 9, rfl, ingX7, Nat.le_of_ble_eq_true rfl, rfl, lf_X7_21⟩
theorem fg34_36 : q_fok 34 36 6 3 := ⟨RX7, TX7, 9, rfl, ingX7, Nat.le_of_ble_eq_true rfl, rfl, lf_X7_36⟩
theorem fg34_69 : q_fok 34 69 9 1 := ⟨RX10, TX10, 5, rfl, ingX10, Nat.le_of_ble_eq_true rfl, rfl, lf_X7_69⟩
theorem fg34_9 : q_fok 34 9 6 4 := ⟨RX7, TX7, 9, rfl, ingX7, Nat.le_of_ble_eq_true rfl, rfl, lf_X7_9⟩
theorem fs35_15 : ∀ U, q_Nw U → va_Nw (.fieldLinkNest (q_mY 35).cls 15 "NeverCross" (q_sn 0) "[I" "NeverCross") U := fun U h => h.1
theorem fg35_18 : q_fok 35 18 6 5 := ⟨RX7, TX7, 9, rfl, ingX7, Nat.le_of_ble_eq_true rfl, rfl, lf_X7_18⟩
theorem fs36_15 : ∀ U, q_Nw U → va_Nw (.fieldLinkNest (q_mY 36).cls 15 "NeverCross" (q_sn 0) "[I" "NeverCross") U := fun U h => h.1
theorem fg36_18 : q_fok 36 18 6 5 := ⟨RX7, TX7, 9, rfl, ingX7, Nat.le_of_ble_eq_true rfl, rfl, lf_X7_18⟩
theorem fg36_21 : q_fok 36 21 6 6 := ⟨RX7, TX7, 9, rfl, ingX7, Nat.le_of_ble_eq_true rfl, rfl, lf_X7_21⟩
theorem fs37_15 : ∀ U, q_Nw U → va_Nw (.fieldLinkNest (q_mY 37).cls 15 "NeverCross" (q_sn 0) "[I" "NeverCross") U := fun U h => h.1
theorem fg37_32 : q_fok 37 32 6 2 := ⟨RX7, TX7, 9, rfl, ingX7, Nat.le_of_ble_eq_true rfl, rfl, lf_X7_32⟩
theorem fg37_26 : q_fok 37 26 6 7 := ⟨RX7, TX7, 9, rfl, ingX7, Nat.le_of_ble_eq_true rfl, rfl, lf_X7_26⟩
theorem fs38_15 : ∀ U, q_Nw U → va_Nw (.fieldLinkNest (q_mY 38).cls 15 "NeverCross" (q_sn 0) "[I" "NeverCross") U := fun U h => h.1
theorem fg38_32 : q_fok 38 32 6 2 := ⟨RX7, TX7, 9, rfl, ingX7, Nat.le_of_ble_eq_true rfl, rfl, lf_X7_32⟩
theorem fg38_29 : q_fok 38 29 6 8 := ⟨RX7, TX7, 9, rfl, ingX7, Nat.le_of_ble_eq_true rfl, rfl, lf_X7_29⟩
theorem lf_X10_23 : Cond.fieldLink "NeverCross$Ways" 23 "NeverCross$Ways" "slope" "LNeverCross$Slope;" ∈ goodTbl := q_in 231 (by decide +kernel) rfl
theorem fg41_23 : q_fok 41 23 9 0 := ⟨RX10, TX10, 5, rfl, ingX10, Nat.le_of_ble_eq_true rfl, rfl, lf_X10_23⟩
theorem lf_X10_27 : Cond.fieldLink "NeverCross$Ways" 27 "NeverCross$Slope" "doors" "I" ∈ goodTbl := q_in 97 (by decide +kernel) rfl
theorem fg41_27 : q_fok 41 27 5 4 := ⟨RX6, TX6, 12, rfl, ingX6, Nat.le_of_ble_eq_true rfl, rfl, lf_X10_27⟩
theorem lf_X10_39 : Cond.fieldLink "NeverCross$Ways" 39 "NeverCross$Ways" "doors" "I" ∈ goodTbl := q_in 233 (by decide +kernel) rfl
theorem fp41_39 : q_pok 41 39 9 1 .int := ⟨RX10, TX10, 5, tyX10, rfl, ingX10, Nat.le_of_ble_eq_true rfl, rfl, lf_X10_39, tyX10_ok, nmX10, rfl, rfl⟩
theorem fg41_39 : q_fok 41 39 9 1 := ⟨RX10, TX10, 5, rfl, ingX10, Nat.le_of_ble_eq_true rfl, rfl, lf_X10_39⟩
theorem lf_X10_9 : Cond.fieldLink "NeverCross$Ways" 9 "NeverCross$Ways" "sizes" "[I" ∈ goodTbl := q_in 235 (by decide +kernel) rfl
theorem fg41_9 : q_fok 41 9 9 2 := ⟨RX10, TX10, 5, rfl, ingX10, Nat.le_of_ble_eq_true rfl, rfl, lf_X10_9⟩
theorem fg42_23 : q_fok 42 23 9 0 := ⟨RX10, TX10, 5, rfl, ingX10, Nat.le_of_ble_eq_true rfl, rfl, lf_X10_23⟩
theorem lf_X10_51 : Cond.fieldLink "NeverCross$Ways" 51 "NeverCross$Slope" "number" "[I" ∈ goodTbl := q_in 109 (by decide +kernel) rfl
theorem fg42_51 : q_fok 42 51 5 7 := ⟨RX6, TX6, 12, rfl, ingX6, Nat.le_of_ble_eq_true rfl, rfl, lf_X10_51⟩
theorem fg42_39 : q_fok 42 39 9 1 := ⟨RX10, TX10, 5, rfl, ingX10, Nat.le_of_ble_eq_true rfl, rfl, lf_X10_39⟩
theorem lf_X10_54 : Cond.fieldLink "NeverCross$Ways" 54 "NeverCross$Slope" "kind" "[I" ∈ goodTbl := q_in 103 (by decide +kernel) rfl
theorem fg42_54 : q_fok 42 54 5 5 := ⟨RX6, TX6, 12, rfl, ingX6, Nat.le_of_ble_eq_true rfl, rfl, lf_X10_54⟩
theorem fg43_9 : q_fok 43 9 9 2 := ⟨RX10, TX10, 5, rfl, ingX10, Nat.le_of_ble_eq_true rfl, rfl, lf_X10_9⟩
theorem lf_X10_17 : Cond.fieldLink "NeverCross$Ways" 17 "NeverCross$Ways" "cells" "[[I" ∈ goodTbl := q_in 238 (by decide +kernel) rfl
theorem fg43_17 : q_fok 43 17 9 3 := ⟨RX10, TX10, 5, rfl, ingX10, Nat.le_of_ble_eq_true rfl, rfl, lf_X10_17⟩
theorem lf_X10_20 : Cond.fieldLink "NeverCross$Ways" 20 "NeverCross$Ways" "wells" "[[I" ∈ goodTbl := q_in 241 (by decide +kernel) rfl
theorem fg43_20 : q_fok 43 20 9 4 := ⟨RX10, TX10, 5, rfl, ingX10, Nat.le_of_ble_eq_true rfl, rfl, lf_X10_20⟩
theorem lf_X11_104 : Cond.fieldLink "NeverCross" 104 "NeverCross" "lettersTold" "I" ∈ goodTbl := q_in 321 (by decide +kernel) rfl
theorem fg44_104 : q_fok 44 104 10 1 := ⟨RX11, TX11, 17, rfl, ingX11, Nat.le_of_ble_eq_true rfl, rfl, lf_X11_104⟩
theorem lf_X11_9 : Cond.fieldLink "NeverCross" 9 "NeverCross" "letters" "[I" ∈ goodTbl := q_in 320 (by decide +kernel) rfl
theorem fg44_9 : q_fok 44 9 10 0 := ⟨RX11, TX11, 17, rfl, ingX11, Nat.le_of_ble_eq_true rfl, rfl, lf_X11_9⟩
theorem fp44_104 : q_pok 44 104 10 1 .int := ⟨RX11, TX11, 17, tyX11, rfl, ingX11, Nat.le_of_ble_eq_true rfl, rfl, lf_X11_104, tyX11_ok, nmX11, rfl, rfl⟩
theorem lf_X11_19 : Cond.fieldLink "NeverCross" 19 "NeverCross" "draft" "LNeverCross$Slope;" ∈ goodTbl := q_in 323 (by decide +kernel) rfl
theorem fg45_19 : q_fok 45 19 10 3 := ⟨RX11, TX11, 17, rfl, ingX11, Nat.le_of_ble_eq_true rfl, rfl, lf_X11_19⟩
theorem fg45_9 : q_fok 45 9 10 0 := ⟨RX11, TX11, 17, rfl, ingX11, Nat.le_of_ble_eq_true rfl, rfl, lf_X11_9⟩
theorem fg45_104 : q_fok 45 104 10 1 := ⟨RX11, TX11, 17, rfl, ingX11, Nat.le_of_ble_eq_true rfl, rfl, lf_X11_104⟩
theorem fp45_104 : q_pok 45 104 10 1 .int := ⟨RX11, TX11, 17, tyX11, rfl, ingX11, Nat.le_of_ble_eq_true rfl, rfl, lf_X11_104, tyX11_ok, nmX11, rfl, rfl⟩
theorem lf_X11_111 : Cond.fieldLink "NeverCross" 111 "NeverCross" "slopesRead" "I" ∈ goodTbl := q_in 334 (by decide +kernel) rfl
theorem fg45_111 : q_fok 45 111 10 14 := ⟨RX11, TX11, 17, rfl, ingX11, Nat.le_of_ble_eq_true rfl, rfl, lf_X11_111⟩
theorem fp45_111 : q_pok 45 111 10 14 .int := ⟨RX11, TX11, 17, tyX11, rfl, ingX11, Nat.le_of_ble_eq_true rfl, rfl, lf_X11_111, tyX11_ok, nmX11, rfl, rfl⟩
theorem lf_X11_26 : Cond.fieldLink "NeverCross" 26 "NeverCross" "now" "LNeverCross$Held;" ∈ goodTbl := q_in 324 (by decide +kernel) rfl
theorem fg45_26 : q_fok 45 26 10 4 := ⟨RX11, TX11, 17, rfl, ingX11, Nat.le_of_ble_eq_true rfl, rfl, lf_X11_26⟩
theorem lf_X11_58 : Cond.fieldLink "NeverCross" 58 "NeverCross" "rankHeld" "I" ∈ goodTbl := q_in 336 (by decide +kernel) rfl
theorem fp45_58 : q_pok 45 58 10 16 .int := ⟨RX11, TX11, 17, tyX11, rfl, ingX11, Nat.le_of_ble_eq_true rfl, rfl, lf_X11_58, tyX11_ok, nmX11, rfl, rfl⟩
theorem lf_X11_63 : Cond.fieldLink "NeverCross" 63 "NeverCross$Held" "slope" "LNeverCross$Slope;" ∈ goodTbl := q_in 152 (by decide +kernel) rfl
theorem fg45_63 : q_fok 45 63 2 0 := ⟨RX2, TX2, 8, rfl, ingX2, Nat.le_of_ble_eq_true rfl, rfl, lf_X11_63⟩
theorem lf_X11_118 : Cond.fieldLink "NeverCross" 118 "NeverCross$Slope" "cells" "I" ∈ goodTbl := q_in 92 (by decide +kernel) rfl
theorem fg45_118 : q_fok 45 118 5 2 := ⟨RX6, TX6, 12, rfl, ingX6, Nat.le_of_ble_eq_true rfl, rfl, lf_X11_118⟩
theorem fg46_26 : q_fok 46 26 10 4 := ⟨RX11, TX11, 17, rfl, ingX11, Nat.le_of_ble_eq_true rfl, rfl, lf_X11_26⟩
theorem fg46_63 : q_fok 46 63 2 0 := ⟨RX2, TX2, 8, rfl, ingX2, Nat.le_of_ble_eq_true rfl, rfl, lf_X11_63⟩
theorem lf_X11_125 : Cond.fieldLink "NeverCross" 125 "NeverCross$Slope" "kind" "[I" ∈ goodTbl := q_in 104 (by decide +kernel) rfl
theorem fg46_125 : q_fok 46 125 5 5 := ⟨RX6, TX6, 12, rfl, ingX6, Nat.le_of_ble_eq_true rfl, rfl, lf_X11_125⟩
theorem lf_X11_128 : Cond.fieldLink "NeverCross" 128 "NeverCross$Slope" "cost" "[I" ∈ goodTbl := q_in 106 (by decide +kernel) rfl
theorem fg46_128 : q_fok 46 128 5 6 := ⟨RX6, TX6, 12, rfl, ingX6, Nat.le_of_ble_eq_true rfl, rfl, lf_X11_128⟩
theorem lf_X11_131 : Cond.fieldLink "NeverCross" 131 "NeverCross$Slope" "number" "[I" ∈ goodTbl := q_in 110 (by decide +kernel) rfl
theorem fg46_131 : q_fok 46 131 5 7 := ⟨RX6, TX6, 12, rfl, ingX6, Nat.le_of_ble_eq_true rfl, rfl, lf_X11_131⟩
theorem fg47_26 : q_fok 47 26 10 4 := ⟨RX11, TX11, 17, rfl, ingX11, Nat.le_of_ble_eq_true rfl, rfl, lf_X11_26⟩
theorem lf_X11_134 : Cond.fieldLink "NeverCross" 134 "NeverCross$Held" "law" "I" ∈ goodTbl := q_in 156 (by decide +kernel) rfl
theorem fg47_134 : q_fok 47 134 2 2 := ⟨RX2, TX2, 8, rfl, ingX2, Nat.le_of_ble_eq_true rfl, rfl, lf_X11_134⟩
theorem fp47_134 : q_pok 47 134 2 2 .int := ⟨RX2, TX2, 8, tyX2, rfl, ingX2, Nat.le_of_ble_eq_true rfl, rfl, lf_X11_134, tyX2_ok, nmX2, rfl, rfl⟩
theorem fp47_58 : q_pok 47 58 10 16 .int := ⟨RX11, TX11, 17, tyX11, rfl, ingX11, Nat.le_of_ble_eq_true rfl, rfl, lf_X11_58, tyX11_ok, nmX11, rfl, rfl⟩
theorem fg48_26 : q_fok 48 26 10 4 := ⟨RX11, TX11, 17, rfl, ingX11, Nat.le_of_ble_eq_true rfl, rfl, lf_X11_26⟩
theorem fg48_63 : q_fok 48 63 2 0 := ⟨RX2, TX2, 8, rfl, ingX2, Nat.le_of_ble_eq_true rfl, rfl, lf_X11_63⟩
theorem lf_X11_141 : Cond.fieldLink "NeverCross" 141 "NeverCross$Slope" "doors" "I" ∈ goodTbl := q_in 101 (by decide +kernel) rfl
theorem fg48_141 : q_fok 48 141 5 4 := ⟨RX6, TX6, 12, rfl, ingX6, Nat.le_of_ble_eq_true rfl, rfl, lf_X11_141⟩
theorem lf_X11_148 : Cond.fieldLink "NeverCross" 148 "NeverCross$Held" "told" "I" ∈ goodTbl := q_in 158 (by decide +kernel) rfl
theorem fg48_148 : q_fok 48 148 2 3 := ⟨RX2, TX2, 8, rfl, ingX2, Nat.le_of_ble_eq_true rfl, rfl, lf_X11_148⟩
theorem fp48_148 : q_pok 48 148 2 3 .int := ⟨RX2, TX2, 8, tyX2, rfl, ingX2, Nat.le_of_ble_eq_true rfl, rfl, lf_X11_148, tyX2_ok, nmX2, rfl, rfl⟩
theorem fp48_58 : q_pok 48 58 10 16 .int := ⟨RX11, TX11, 17, tyX11, rfl, ingX11, Nat.le_of_ble_eq_true rfl, rfl, lf_X11_58, tyX11_ok, nmX11, rfl, rfl⟩
theorem fg49_26 : q_fok 49 26 10 4 := ⟨RX11, TX11, 17, rfl, ingX11, Nat.le_of_ble_eq_true rfl, rfl, lf_X11_26⟩
theorem fg49_63 : q_fok 49 63 2 0 := ⟨RX2, TX2, 8, rfl, ingX2, Nat.le_of_ble_eq_true rfl, rfl, lf_X11_63⟩
theorem fg52_26 : q_fok 52 26 10 4 := ⟨RX11, TX11, 17, rfl, ingX11, Nat.le_of_ble_eq_true rfl, rfl, lf_X11_26⟩
theorem fg52_63 : q_fok 52 63 2 0 := ⟨RX2, TX2, 8, rfl, ingX2, Nat.le_of_ble_eq_true rfl, rfl, lf_X11_63⟩
theorem fg52_141 : q_fok 52 141 5 4 := ⟨RX6, TX6, 12, rfl, ingX6, Nat.le_of_ble_eq_true rfl, rfl, lf_X11_141⟩
theorem fg53_26 : q_fok 53 26 10 4 := ⟨RX11, TX11, 17, rfl, ingX11, Nat.le_of_ble_eq_true rfl, rfl, lf_X11_26⟩
theorem fg53_63 : q_fok 53 63 2 0 := ⟨RX2, TX2, 8, rfl, ingX2, Nat.le_of_ble_eq_true rfl, rfl, lf_X11_63⟩
theorem fg53_141 : q_fok 53 141 5 4 := ⟨RX6, TX6, 12, rfl, ingX6, Nat.le_of_ble_eq_true rfl, rfl, lf_X11_141⟩
theorem fg55_26 : q_fok 55 26 10 4 := ⟨RX11, TX11, 17, rfl, ingX11, Nat.le_of_ble_eq_true rfl, rfl, lf_X11_26⟩
theorem fg55_63 : q_fok 55 63 2 0 := ⟨RX2, TX2, 8, rfl, ingX2, Nat.le_of_ble_eq_true rfl, rfl, lf_X11_63⟩
theorem fg56_26 : q_fok 56 26 10 4 := ⟨RX11, TX11, 17, rfl, ingX11, Nat.le_of_ble_eq_true rfl, rfl, lf_X11_26⟩
theorem fg56_63 : q_fok 56 63 2 0 := ⟨RX2, TX2, 8, rfl, ingX2, Nat.le_of_ble_eq_true rfl, rfl, lf_X11_63⟩
theorem fg57_26 : q_fok 57 26 10 4 := ⟨RX11, TX11, 17, rfl, ingX11, Nat.le_of_ble_eq_true rfl, rfl, lf_X11_26⟩
theorem fg57_63 : q_fok 57 63 2 0 := ⟨RX2, TX2, 8, rfl, ingX2, Nat.le_of_ble_eq_true rfl, rfl, lf_X11_63⟩
theorem lf_X11_197 : Cond.fieldLink "NeverCross" 197 "NeverCross$Study" "most" "I" ∈ goodTbl := q_in 265 (by decide +kernel) rfl
theorem fg58_197 : q_fok 58 197 6 0 := ⟨RX7, TX7, 9, rfl, ingX7, Nat.le_of_ble_eq_true rfl, rfl, lf_X11_197⟩
theorem lf_X11_200 : Cond.fieldLink "NeverCross" 200 "NeverCross$Study" "shut" "I" ∈ goodTbl := q_in 267 (by decide +kernel) rfl
theorem fg59_200 : q_fok 59 200 6 1 := ⟨RX7, TX7, 9, rfl, ingX7, Nat.le_of_ble_eq_true rfl, rfl, lf_X11_200⟩
theorem fg60_26 : q_fok 60 26 10 4 := ⟨RX11, TX11, 17, rfl, ingX11, Nat.le_of_ble_eq_true rfl, rfl, lf_X11_26⟩
theorem fg60_63 : q_fok 60 63 2 0 := ⟨RX2, TX2, 8, rfl, ingX2, Nat.le_of_ble_eq_true rfl, rfl, lf_X11_63⟩
theorem lf_X11_203 : Cond.fieldLink "NeverCross" 203 "NeverCross$Held" "seenCells" "I" ∈ goodTbl := q_in 160 (by decide +kernel) rfl
theorem fg60_203 : q_fok 60 203 2 4 := ⟨RX2, TX2, 8, rfl, ingX2, Nat.le_of_ble_eq_true rfl, rfl, lf_X11_203⟩
theorem lf_X11_206 : Cond.fieldLink "NeverCross" 206 "NeverCross$Held" "seen" "[I" ∈ goodTbl := q_in 162 (by decide +kernel) rfl
theorem fg60_206 : q_fok 60 206 2 5 := ⟨RX2, TX2, 8, rfl, ingX2, Nat.le_of_ble_eq_true rfl, rfl, lf_X11_206⟩
theorem fp60_203 : q_pok 60 203 2 4 .int := ⟨RX2, TX2, 8, tyX2, rfl, ingX2, Nat.le_of_ble_eq_true rfl, rfl, lf_X11_203, tyX2_ok, nmX2, rfl, rfl⟩
theorem fg61_26 : q_fok 61 26 10 4 := ⟨RX11, TX11, 17, rfl, ingX11, Nat.le_of_ble_eq_true rfl, rfl, lf_X11_26⟩
theorem lf_X11_94 : Cond.fieldLink "NeverCross" 94 "NeverCross" "fitting" "LNeverCross$Finder;" ∈ goodTbl := q_in 332 (by decide +kernel) rfl
theorem fg61_94 : q_fok 61 94 10 12 := ⟨RX11, TX11, 17, rfl, ingX11, Nat.le_of_ble_eq_true rfl, rfl, lf_X11_94⟩
theorem fg61_148 : q_fok 61 148 2 3 := ⟨RX2, TX2, 8, rfl, ingX2, Nat.le_of_ble_eq_true rfl, rfl, lf_X11_148⟩
theorem fg62_26 : q_fok 62 26 10 4 := ⟨RX11, TX11, 17, rfl, ingX11, Nat.le_of_ble_eq_true rfl, rfl, lf_X11_26⟩
theorem fg62_63 : q_fok 62 63 2 0 := ⟨RX2, TX2, 8, rfl, ingX2, Nat.le_of_ble_eq_true rfl, rfl, lf_X11_63⟩
theorem fg63_26 : q_fok 63 26 10 4 := ⟨RX11, TX11, 17, rfl, ingX11, Nat.le_of_ble_eq_true rfl, rfl, lf_X11_26⟩
theorem fg63_63 : q_fok 63 63 2 0 := ⟨RX2, TX2, 8, rfl, ingX2, Nat.le_of_ble_eq_true rfl, rfl, lf_X11_63⟩
theorem fg63_125 : q_fok 63 125 5 5 := ⟨RX6, TX6, 12, rfl, ingX6, Nat.le_of_ble_eq_true rfl, rfl, lf_X11_125⟩
theorem fg64_26 : q_fok 64 26 10 4 := ⟨RX11, TX11, 17, rfl, ingX11, Nat.le_of_ble_eq_true rfl, rfl, lf_X11_26⟩
theorem fg64_63 : q_fok 64 63 2 0 := ⟨RX2, TX2, 8, rfl, ingX2, Nat.le_of_ble_eq_true rfl, rfl, lf_X11_63⟩
theorem fg64_141 : q_fok 64 141 5 4 := ⟨RX6, TX6, 12, rfl, ingX6, Nat.le_of_ble_eq_true rfl, rfl, lf_X11_141⟩
theorem lf_X11_73 : Cond.fieldLink "NeverCross" 73 "NeverCross" "fewWays" "LNeverCross$Ways;" ∈ goodTbl := q_in 329 (by decide +kernel) rfl
theorem fg64_73 : q_fok 64 73 10 9 := ⟨RX11, TX11, 17, rfl, ingX11, Nat.le_of_ble_eq_true rfl, rfl, lf_X11_73⟩
theorem lf_X11_97 : Cond.fieldLink "NeverCross" 97 "NeverCross" "fewFound" "LNeverCross$Finder;" ∈ goodTbl := q_in 333 (by decide +kernel) rfl
theorem fg64_97 : q_fok 64 97 10 13 := ⟨RX11, TX11, 17, rfl, ingX11, Nat.le_of_ble_eq_true rfl, rfl, lf_X11_97⟩
theorem lf_X11_50 : Cond.fieldLink "NeverCross" 50 "NeverCross" "laws" "[LNeverCross$Law;" ∈ goodTbl := q_in 327 (by decide +kernel) rfl
theorem fg64_50 : q_fok 64 50 10 7 := ⟨RX11, TX11, 17, rfl, ingX11, Nat.le_of_ble_eq_true rfl, rfl, lf_X11_50⟩
theorem fg66_26 : q_fok 66 26 10 4 := ⟨RX11, TX11, 17, rfl, ingX11, Nat.le_of_ble_eq_true rfl, rfl, lf_X11_26⟩
theorem fg66_63 : q_fok 66 63 2 0 := ⟨RX2, TX2, 8, rfl, ingX2, Nat.le_of_ble_eq_true rfl, rfl, lf_X11_63⟩
theorem lf_X11_232 : Cond.fieldLink "NeverCross" 232 "NeverCross$Held" "lengths" "[I" ∈ goodTbl := q_in 164 (by decide +kernel) rfl
theorem fg66_232 : q_fok 66 232 2 6 := ⟨RX2, TX2, 8, rfl, ingX2, Nat.le_of_ble_eq_true rfl, rfl, lf_X11_232⟩
theorem lf_X11_235 : Cond.fieldLink "NeverCross" 235 "NeverCross$Held" "steps" "[[I" ∈ goodTbl := q_in 166 (by decide +kernel) rfl
theorem fg66_235 : q_fok 66 235 2 7 := ⟨RX2, TX2, 8, rfl, ingX2, Nat.le_of_ble_eq_true rfl, rfl, lf_X11_235⟩
theorem fg67_26 : q_fok 67 26 10 4 := ⟨RX11, TX11, 17, rfl, ingX11, Nat.le_of_ble_eq_true rfl, rfl, lf_X11_26⟩
theorem fg68_26 : q_fok 68 26 10 4 := ⟨RX11, TX11, 17, rfl, ingX11, Nat.le_of_ble_eq_true rfl, rfl, lf_X11_26⟩
theorem lf_X11_30 : Cond.fieldLink "NeverCross" 30 "NeverCross" "kept" "LNeverCross$Held;" ∈ goodTbl := q_in 325 (by decide +kernel) rfl
theorem fg69_30 : q_fok 69 30 10 5 := ⟨RX11, TX11, 17, rfl, ingX11, Nat.le_of_ble_eq_true rfl, rfl, lf_X11_30⟩
theorem fg69_26 : q_fok 69 26 10 4 := ⟨RX11, TX11, 17, rfl, ingX11, Nat.le_of_ble_eq_true rfl, rfl, lf_X11_26⟩
theorem lf_X11_255 : Cond.fieldLink "NeverCross" 255 "NeverCross" "imageTaken" "Z" ∈ goodTbl := q_in 326 (by decide +kernel) rfl
theorem fp69_255 : q_pok 69 255 10 6 .boolean := ⟨RX11, TX11, 17, tyX11, rfl, ingX11, Nat.le_of_ble_eq_true rfl, rfl, lf_X11_255, tyX11_ok, nmX11, rfl, rfl⟩
theorem fg69_63 : q_fok 69 63 2 0 := ⟨RX2, TX2, 8, rfl, ingX2, Nat.le_of_ble_eq_true rfl, rfl, lf_X11_63⟩
theorem fg69_118 : q_fok 69 118 5 2 := ⟨RX6, TX6, 12, rfl, ingX6, Nat.le_of_ble_eq_true rfl, rfl, lf_X11_118⟩
theorem fg70_255 : q_fok 70 255 10 6 := ⟨RX11, TX11, 17, rfl, ingX11, Nat.le_of_ble_eq_true rfl, rfl, lf_X11_255⟩
theorem fg70_26 : q_fok 70 26 10 4 := ⟨RX11, TX11, 17, rfl, ingX11, Nat.le_of_ble_eq_true rfl, rfl, lf_X11_26⟩
theorem fg70_30 : q_fok 70 30 10 5 := ⟨RX11, TX11, 17, rfl, ingX11, Nat.le_of_ble_eq_true rfl, rfl, lf_X11_30⟩
theorem fp70_58 : q_pok 70 58 10 16 .int := ⟨RX11, TX11, 17, tyX11, rfl, ingX11, Nat.le_of_ble_eq_true rfl, rfl, lf_X11_58, tyX11_ok, nmX11, rfl, rfl⟩
theorem fg70_63 : q_fok 70 63 2 0 := ⟨RX2, TX2, 8, rfl, ingX2, Nat.le_of_ble_eq_true rfl, rfl, lf_X11_63⟩
theorem fg70_118 : q_fok 70 118 5 2 := ⟨RX6, TX6, 12, rfl, ingX6, Nat.le_of_ble_eq_true rfl, rfl, lf_X11_118⟩
theorem fg71_26 : q_fok 71 26 10 4 := ⟨RX11, TX11, 17, rfl, ingX11, Nat.le_of_ble_eq_true rfl, rfl, lf_X11_26⟩
theorem fg71_63 : q_fok 71 63 2 0 := ⟨RX2, TX2, 8, rfl, ingX2, Nat.le_of_ble_eq_true rfl, rfl, lf_X11_63⟩
theorem lf_X11_259 : Cond.fieldLink "NeverCross" 259 "NeverCross$Slope" "rows" "I" ∈ goodTbl := q_in 88 (by decide +kernel) rfl
theorem fg71_259 : q_fok 71 259 5 0 := ⟨RX6, TX6, 12, rfl, ingX6, Nat.le_of_ble_eq_true rfl, rfl, lf_X11_259⟩
theorem lf_X11_262 : Cond.fieldLink "NeverCross" 262 "NeverCross$Slope" "columns" "I" ∈ goodTbl := q_in 90 (by decide +kernel) rfl
theorem fg71_262 : q_fok 71 262 5 1 := ⟨RX6, TX6, 12, rfl, ingX6, Nat.le_of_ble_eq_true rfl, rfl, lf_X11_262⟩
theorem fg71_141 : q_fok 71 141 5 4 := ⟨RX6, TX6, 12, rfl, ingX6, Nat.le_of_ble_eq_true rfl, rfl, lf_X11_141⟩
theorem lf_X11_265 : Cond.fieldLink "NeverCross" 265 "NeverCross$Slope" "stones" "I" ∈ goodTbl := q_in 96 (by decide +kernel) rfl
theorem fg71_265 : q_fok 71 265 5 3 := ⟨RX6, TX6, 12, rfl, ingX6, Nat.le_of_ble_eq_true rfl, rfl, lf_X11_265⟩
theorem fg71_203 : q_fok 71 203 2 4 := ⟨RX2, TX2, 8, rfl, ingX2, Nat.le_of_ble_eq_true rfl, rfl, lf_X11_203⟩
theorem fg71_104 : q_fok 71 104 10 1 := ⟨RX11, TX11, 17, rfl, ingX11, Nat.le_of_ble_eq_true rfl, rfl, lf_X11_104⟩
theorem fg71_134 : q_fok 71 134 2 2 := ⟨RX2, TX2, 8, rfl, ingX2, Nat.le_of_ble_eq_true rfl, rfl, lf_X11_134⟩
theorem fg71_148 : q_fok 71 148 2 3 := ⟨RX2, TX2, 8, rfl, ingX2, Nat.le_of_ble_eq_true rfl, rfl, lf_X11_148⟩
theorem lf_X11_13 : Cond.fieldLink "NeverCross" 13 "NeverCross" "refusals" "[I" ∈ goodTbl := q_in 322 (by decide +kernel) rfl
theorem fg71_13 : q_fok 71 13 10 2 := ⟨RX11, TX11, 17, rfl, ingX11, Nat.le_of_ble_eq_true rfl, rfl, lf_X11_13⟩
theorem fg72_13 : q_fok 72 13 10 2 := ⟨RX11, TX11, 17, rfl, ingX11, Nat.le_of_ble_eq_true rfl, rfl, lf_X11_13⟩
theorem fg73_26 : q_fok 73 26 10 4 := ⟨RX11, TX11, 17, rfl, ingX11, Nat.le_of_ble_eq_true rfl, rfl, lf_X11_26⟩
theorem fg73_63 : q_fok 73 63 2 0 := ⟨RX2, TX2, 8, rfl, ingX2, Nat.le_of_ble_eq_true rfl, rfl, lf_X11_63⟩
theorem fg73_118 : q_fok 73 118 5 2 := ⟨RX6, TX6, 12, rfl, ingX6, Nat.le_of_ble_eq_true rfl, rfl, lf_X11_118⟩
theorem lf_X11_54 : Cond.fieldLink "NeverCross" 54 "NeverCross" "slopeStudied" "I" ∈ goodTbl := q_in 335 (by decide +kernel) rfl
theorem fg74_54 : q_fok 74 54 10 15 := ⟨RX11, TX11, 17, rfl, ingX11, Nat.le_of_ble_eq_true rfl, rfl, lf_X11_54⟩
theorem fg74_26 : q_fok 74 26 10 4 := ⟨RX11, TX11, 17, rfl, ingX11, Nat.le_of_ble_eq_true rfl, rfl, lf_X11_26⟩
theorem lf_X11_268 : Cond.fieldLink "NeverCross" 268 "NeverCross$Held" "slopeNumber" "I" ∈ goodTbl := q_in 154 (by decide +kernel) rfl
theorem fg74_268 : q_fok 74 268 2 1 := ⟨RX2, TX2, 8, rfl, ingX2, Nat.le_of_ble_eq_true rfl, rfl, lf_X11_268⟩
theorem lf_X11_69 : Cond.fieldLink "NeverCross" 69 "NeverCross" "ways" "LNeverCross$Ways;" ∈ goodTbl := q_in 328 (by decide +kernel) rfl
theorem fg74_69 : q_fok 74 69 10 8 := ⟨RX11, TX11, 17, rfl, ingX11, Nat.le_of_ble_eq_true rfl, rfl, lf_X11_69⟩
theorem fg74_63 : q_fok 74 63 2 0 := ⟨RX2, TX2, 8, rfl, ingX2, Nat.le_of_ble_eq_true rfl, rfl, lf_X11_63⟩
theorem fg74_141 : q_fok 74 141 5 4 := ⟨RX6, TX6, 12, rfl, ingX6, Nat.le_of_ble_eq_true rfl, rfl, lf_X11_141⟩
theorem lf_X11_81 : Cond.fieldLink "NeverCross" 81 "NeverCross" "study" "LNeverCross$Study;" ∈ goodTbl := q_in 330 (by decide +kernel) rfl
theorem fg74_81 : q_fok 74 81 10 10 := ⟨RX11, TX11, 17, rfl, ingX11, Nat.le_of_ble_eq_true rfl, rfl, lf_X11_81⟩
theorem fp74_54 : q_pok 74 54 10 15 .int := ⟨RX11, TX11, 17, tyX11, rfl, ingX11, Nat.le_of_ble_eq_true rfl, rfl, lf_X11_54, tyX11_ok, nmX11, rfl, rfl⟩
theorem fg75_26 : q_fok 75 26 10 4 := ⟨RX11, TX11, 17, rfl, ingX11, Nat.le_of_ble_eq_true rfl, rfl, lf_X11_26⟩
theorem fg75_134 : q_fok 75 134 2 2 := ⟨RX2, TX2, 8, rfl, ingX2, Nat.le_of_ble_eq_true rfl, rfl, lf_X11_134⟩
theorem fg75_50 : q_fok 75 50 10 7 := ⟨RX11, TX11, 17, rfl, ingX11, Nat.le_of_ble_eq_true rfl, rfl, lf_X11_50⟩
theorem fg76_26 : q_fok 76 26 10 4 := ⟨RX11, TX11, 17, rfl, ingX11, Nat.le_of_ble_eq_true rfl, rfl, lf_X11_26⟩
theorem fg76_63 : q_fok 76 63 2 0 := ⟨RX2, TX2, 8, rfl, ingX2, Nat.le_of_ble_eq_true rfl, rfl, lf_X11_63⟩
theorem fg76_141 : q_fok 76 141 5 4 := ⟨RX6, TX6, 12, rfl, ingX6, Nat.le_of_ble_eq_true rfl, rfl, lf_X11_141⟩
theorem lf_X11_274 : Cond.fieldLink "NeverCross" 274 "NeverCross" "ORDERS" "[I" ∈ goodTbl := q_in 432 (by decide +kernel) rfl
theorem fs76_274 : Cond.fieldLink (q_mY 76).cls 274 "NeverCross" (q_sn 0) "[I" ∈ goodTbl := lf_X11_274
theorem fg76_148 : q_fok 76 148 2 3 := ⟨RX2, TX2, 8, rfl, ingX2, Nat.le_of_ble_eq_true rfl, rfl, lf_X11_148⟩
theorem fg79_26 : q_fok 79 26 10 4 := ⟨RX11, TX11, 17, rfl, ingX11, Nat.le_of_ble_eq_true rfl, rfl, lf_X11_26⟩
theorem fg79_63 : q_fok 79 63 2 0 := ⟨RX2, TX2, 8, rfl, ingX2, Nat.le_of_ble_eq_true rfl, rfl, lf_X11_63⟩
theorem fg79_141 : q_fok 79 141 5 4 := ⟨RX6, TX6, 12, rfl, ingX6, Nat.le_of_ble_eq_true rfl, rfl, lf_X11_141⟩
theorem fg80_58 : q_fok 80 58 10 16 := ⟨RX11, TX11, 17, rfl, ingX11, Nat.le_of_ble_eq_true rfl, rfl, lf_X11_58⟩
theorem lf_X11_90 : Cond.fieldLink "NeverCross" 90 "NeverCross" "ranked" "LNeverCross$Finder;" ∈ goodTbl := q_in 331 (by decide +kernel) rfl
theorem fg80_90 : q_fok 80 90 10 11 := ⟨RX11, TX11, 17, rfl, ingX11, Nat.le_of_ble_eq_true rfl, rfl, lf_X11_90⟩
theorem fg80_26 : q_fok 80 26 10 4 := ⟨RX11, TX11, 17, rfl, ingX11, Nat.le_of_ble_eq_true rfl, rfl, lf_X11_26⟩
theorem fg80_148 : q_fok 80 148 2 3 := ⟨RX2, TX2, 8, rfl, ingX2, Nat.le_of_ble_eq_true rfl, rfl, lf_X11_148⟩
theorem fp80_58 : q_pok 80 58 10 16 .int := ⟨RX11, TX11, 17, tyX11, rfl, ingX11, Nat.le_of_ble_eq_true rfl, rfl, lf_X11_58, tyX11_ok, nmX11, rfl, rfl⟩
theorem fg80_63 : q_fok 80 63 2 0 := ⟨RX2, TX2, 8, rfl, ingX2, Nat.le_of_ble_eq_true rfl, rfl, lf_X11_63⟩
theorem lf_X11_288 : Cond.fieldLink "NeverCross" 288 "NeverCross$Finder" "picked" "[I" ∈ goodTbl := q_in 301 (by decide +kernel) rfl
theorem fg80_288 : q_fok 80 288 1 0 := ⟨RX1, TX1, 6, rfl, ingX1, Nat.le_of_ble_eq_true rfl, rfl, lf_X11_288⟩
theorem fg81_26 : q_fok 81 26 10 4 := ⟨RX11, TX11, 17, rfl, ingX11, Nat.le_of_ble_eq_true rfl, rfl, lf_X11_26⟩
theorem fg81_63 : q_fok 81 63 2 0 := ⟨RX2, TX2, 8, rfl, ingX2, Nat.le_of_ble_eq_true rfl, rfl, lf_X11_63⟩
theorem fg81_141 : q_fok 81 141 5 4 := ⟨RX6, TX6, 12, rfl, ingX6, Nat.le_of_ble_eq_true rfl, rfl, lf_X11_141⟩
theorem fg81_125 : q_fok 81 125 5 5 := ⟨RX6, TX6, 12, rfl, ingX6, Nat.le_of_ble_eq_true rfl, rfl, lf_X11_125⟩
theorem fg81_148 : q_fok 81 148 2 3 := ⟨RX2, TX2, 8, rfl, ingX2, Nat.le_of_ble_eq_true rfl, rfl, lf_X11_148⟩
theorem fg81_131 : q_fok 81 131 5 7 := ⟨RX6, TX6, 12, rfl, ingX6, Nat.le_of_ble_eq_true rfl, rfl, lf_X11_131⟩
theorem lf_X11_307 : Cond.fieldLink "NeverCross" 307 "NeverCross" "ORDER_STARTS" "[I" ∈ goodTbl := q_in 436 (by decide +kernel) rfl
theorem fs85_307 : Cond.fieldLink (q_mY 85).cls 307 "NeverCross" (q_sn 1) "[I" ∈ goodTbl := lf_X11_307
theorem fs86_307 : Cond.fieldLink (q_mY 86).cls 307 "NeverCross" (q_sn 1) "[I" ∈ goodTbl := lf_X11_307
theorem fs87_274 : Cond.fieldLink (q_mY 87).cls 274 "NeverCross" (q_sn 0) "[I" ∈ goodTbl := lf_X11_274
theorem fs88_274 : Cond.fieldLink (q_mY 88).cls 274 "NeverCross" (q_sn 0) "[I" ∈ goodTbl := lf_X11_274
theorem lf_X11_310 : Cond.fieldLink "NeverCross" 310 "NeverCross" "TENS" "[I" ∈ goodTbl := q_in 589 (by decide +kernel) rfl
theorem fs89_310 : Cond.fieldLink (q_mY 89).cls 310 "NeverCross" (q_sn 2) "[I" ∈ goodTbl := lf_X11_310
theorem lf_X12_7 : Cond.fieldLink "NeverCrossModel" 7 "NeverCrossModel" "refusals" "[I" ∈ goodTbl := q_in 788 (by decide +kernel) rfl
theorem fg91_7 : q_fok 91 7 11 0 := ⟨RX12, TX12, 28, rfl, ingX12, Nat.le_of_ble_eq_true rfl, rfl, lf_X12_7⟩
theorem lf_X12_13 : Cond.fieldLink "NeverCrossModel" 13 "NeverCrossModel" "s" "[I" ∈ goodTbl := q_in 789 (by decide +kernel) rfl
theorem fg95_13 : q_fok 95 13 11 1 := ⟨RX12, TX12, 28, rfl, ingX12, Nat.le_of_ble_eq_true rfl, rfl, lf_X12_13⟩
theorem fg97_13 : q_fok 97 13 11 1 := ⟨RX12, TX12, 28, rfl, ingX12, Nat.le_of_ble_eq_true rfl, rfl, lf_X12_13⟩
theorem fg98_13 : q_fok 98 13 11 1 := ⟨RX12, TX12, 28, rfl, ingX12, Nat.le_of_ble_eq_true rfl, rfl, lf_X12_13⟩
theorem fg99_13 : q_fok 99 13 11 1 := ⟨RX12, TX12, 28, rfl, ingX12, Nat.le_of_ble_eq_true rfl, rfl, lf_X12_13⟩
theorem fg100_13 : q_fok 100 13 11 1 := ⟨RX12, TX12, 28, rfl, ingX12, Nat.le_of_ble_eq_true rfl, rfl, lf_X12_13⟩
theorem lf_X12_76 : Cond.fieldLink "NeverCrossModel" 76 "NeverCrossModel" "taped" "I" ∈ goodTbl := q_in 794 (by decide +kernel) rfl
theorem fg101_76 : q_fok 101 76 11 6 := ⟨RX12, TX12, 28, rfl, ingX12, Nat.le_of_ble_eq_true rfl, rfl, lf_X12_76⟩
theorem lf_X12_22 : Cond.fieldLink "NeverCrossModel" 22 "NeverCrossModel" "tape" "[I" ∈ goodTbl := q_in 793 (by decide +kernel) rfl
theorem fg101_22 : q_fok 101 22 11 5 := ⟨RX12, TX12, 28, rfl, ingX12, Nat.le_of_ble_eq_true rfl, rfl, lf_X12_22⟩
theorem fp101_76 : q_pok 101 76 11 6 .int := ⟨RX12, TX12, 28, tyX12, rfl, ingX12, Nat.le_of_ble_eq_true rfl, rfl, lf_X12_76, tyX12_ok, nmX12, rfl, rfl⟩
theorem lf_X12_19 : Cond.fieldLink "NeverCrossModel" 19 "NeverCrossModel" "read" "[I" ∈ goodTbl := q_in 791 (by decide +kernel) rfl
theorem fg102_19 : q_fok 102 19 11 3 := ⟨RX12, TX12, 28, rfl, ingX12, Nat.le_of_ble_eq_true rfl, rfl, lf_X12_19⟩
theorem lf_X12_84 : Cond.fieldLink "NeverCrossModel" 84 "NeverCrossModel" "doorsTold" "I" ∈ goodTbl := q_in 795 (by decide +kernel) rfl
theorem fg102_84 : q_fok 102 84 11 7 := ⟨RX12, TX12, 28, rfl, ingX12, Nat.le_of_ble_eq_true rfl, rfl, lf_X12_84⟩
theorem lf_X12_87 : Cond.fieldLink "NeverCrossModel" 87 "NeverCrossModel" "wellsTold" "I" ∈ goodTbl := q_in 796 (by decide +kernel) rfl
theorem fg102_87 : q_fok 102 87 11 8 := ⟨RX12, TX12, 28, rfl, ingX12, Nat.le_of_ble_eq_true rfl, rfl, lf_X12_87⟩
theorem fp102_84 : q_pok 102 84 11 7 .int := ⟨RX12, TX12, 28, tyX12, rfl, ingX12, Nat.le_of_ble_eq_true rfl, rfl, lf_X12_84, tyX12_ok, nmX12, rfl, rfl⟩
theorem fp102_87 : q_pok 102 87 11 8 .int := ⟨RX12, TX12, 28, tyX12, rfl, ingX12, Nat.le_of_ble_eq_true rfl, rfl, lf_X12_87, tyX12_ok, nmX12, rfl, rfl⟩
theorem fp103_84 : q_pok 103 84 11 7 .int := ⟨RX12, TX12, 28, tyX12, rfl, ingX12, Nat.le_of_ble_eq_true rfl, rfl, lf_X12_84, tyX12_ok, nmX12, rfl, rfl⟩
theorem fp103_87 : q_pok 103 87 11 8 .int := ⟨RX12, TX12, 28, tyX12, rfl, ingX12, Nat.le_of_ble_eq_true rfl, rfl, lf_X12_87, tyX12_ok, nmX12, rfl, rfl⟩
theorem fg103_76 : q_fok 103 76 11 6 := ⟨RX12, TX12, 28, rfl, ingX12, Nat.le_of_ble_eq_true rfl, rfl, lf_X12_76⟩
theorem fg103_22 : q_fok 103 22 11 5 := ⟨RX12, TX12, 28, rfl, ingX12, Nat.le_of_ble_eq_true rfl, rfl, lf_X12_22⟩
theorem fg103_84 : q_fok 103 84 11 7 := ⟨RX12, TX12, 28, rfl, ingX12, Nat.le_of_ble_eq_true rfl, rfl, lf_X12_84⟩
theorem fg103_87 : q_fok 103 87 11 8 := ⟨RX12, TX12, 28, rfl, ingX12, Nat.le_of_ble_eq_true rfl, rfl, lf_X12_87⟩
theorem fg103_13 : q_fok 103 13 11 1 := ⟨RX12, TX12, 28, rfl, ingX12, Nat.le_of_ble_eq_true rfl, rfl, lf_X12_13⟩
theorem fg103_19 : q_fok 103 19 11 3 := ⟨RX12, TX12, 28, rfl, ingX12, Nat.le_of_ble_eq_true rfl, rfl, lf_X12_19⟩
theorem fp104_76 : q_pok 104 76 11 6 .int := ⟨RX12, TX12, 28, tyX12, rfl, ingX12, Nat.le_of_ble_eq_true rfl, rfl, lf_X12_76, tyX12_ok, nmX12, rfl, rfl⟩
theorem fg105_13 : q_fok 105 13 11 1 := ⟨RX12, TX12, 28, rfl, ingX12, Nat.le_of_ble_eq_true rfl, rfl, lf_X12_13⟩
theorem fg106_13 : q_fok 106 13 11 1 := ⟨RX12, TX12, 28, rfl, ingX12, Nat.le_of_ble_eq_true rfl, rfl, lf_X12_13⟩
theorem fg107_13 : q_fok 107 13 11 1 := ⟨RX12, TX12, 28, rfl, ingX12, Nat.le_of_ble_eq_true rfl, rfl, lf_X12_13⟩
theorem fg108_13 : q_fok 108 13 11 1 := ⟨RX12, TX12, 28, rfl, ingX12, Nat.le_of_ble_eq_true rfl, rfl, lf_X12_13⟩
theorem lf_X12_25 : Cond.fieldLink "NeverCrossModel" 25 "NeverCrossModel" "order" "[I" ∈ goodTbl := q_in 797 (by decide +kernel) rfl
theorem fg108_25 : q_fok 108 25 11 9 := ⟨RX12, TX12, 28, rfl, ingX12, Nat.le_of_ble_eq_true rfl, rfl, lf_X12_25⟩
theorem fg109_13 : q_fok 109 13 11 1 := ⟨RX12, TX12, 28, rfl, ingX12, Nat.le_of_ble_eq_true rfl, rfl, lf_X12_13⟩
theorem fg109_25 : q_fok 109 25 11 9 := ⟨RX12, TX12, 28, rfl, ingX12, Nat.le_of_ble_eq_true rfl, rfl, lf_X12_25⟩
theorem fg111_13 : q_fok 111 13 11 1 := ⟨RX12, TX12, 28, rfl, ingX12, Nat.le_of_ble_eq_true rfl, rfl, lf_X12_13⟩
theorem lf_X12_40 : Cond.fieldLink "NeverCrossModel" 40 "NeverCrossModel" "wayed" "[I" ∈ goodTbl := q_in 802 (by decide +kernel) rfl
theorem fg112_40 : q_fok 112 40 11 14 := ⟨RX12, TX12, 28, rfl, ingX12, Nat.le_of_ble_eq_true rfl, rfl, lf_X12_40⟩
theorem lf_X12_28 : Cond.fieldLink "NeverCrossModel" 28 "NeverCrossModel" "way" "[I" ∈ goodTbl := q_in 798 (by decide +kernel) rfl
theorem fg112_28 : q_fok 112 28 11 10 := ⟨RX12, TX12, 28, rfl, ingX12, Nat.le_of_ble_eq_true rfl, rfl, lf_X12_28⟩
theorem lf_X12_31 : Cond.fieldLink "NeverCrossModel" 31 "NeverCrossModel" "steps" "[I" ∈ goodTbl := q_in 799 (by decide +kernel) rfl
theorem fg112_31 : q_fok 112 31 11 11 := ⟨RX12, TX12, 28, rfl, ingX12, Nat.le_of_ble_eq_true rfl, rfl, lf_X12_31⟩
theorem lf_X12_34 : Cond.fieldLink "NeverCrossModel" 34 "NeverCrossModel" "length" "[I" ∈ goodTbl := q_in 800 (by decide +kernel) rfl
theorem fg112_34 : q_fok 112 34 11 12 := ⟨RX12, TX12, 28, rfl, ingX12, Nat.le_of_ble_eq_true rfl, rfl, lf_X12_34⟩
theorem lf_X12_37 : Cond.fieldLink "NeverCrossModel" 37 "NeverCrossModel" "well" "[I" ∈ goodTbl := q_in 801 (by decide +kernel) rfl
theorem fg112_37 : q_fok 112 37 11 13 := ⟨RX12, TX12, 28, rfl, ingX12, Nat.le_of_ble_eq_true rfl, rfl, lf_X12_37⟩
theorem fg113_13 : q_fok 113 13 11 1 := ⟨RX12, TX12, 28, rfl, ingX12, Nat.le_of_ble_eq_true rfl, rfl, lf_X12_13⟩
theorem fg113_40 : q_fok 113 40 11 14 := ⟨RX12, TX12, 28, rfl, ingX12, Nat.le_of_ble_eq_true rfl, rfl, lf_X12_40⟩
theorem lf_X12_138 : Cond.fieldLink "NeverCrossModel" 138 "NeverCrossModel" "least" "I" ∈ goodTbl := q_in 809 (by decide +kernel) rfl
theorem fg118_138 : q_fok 118 138 11 21 := ⟨RX12, TX12, 28, rfl, ingX12, Nat.le_of_ble_eq_true rfl, rfl, lf_X12_138⟩
theorem fp118_138 : q_pok 118 138 11 21 .int := ⟨RX12, TX12, 28, tyX12, rfl, ingX12, Nat.le_of_ble_eq_true rfl, rfl, lf_X12_138, tyX12_ok, nmX12, rfl, rfl⟩
theorem lf_X12_141 : Cond.fieldLink "NeverCrossModel" 141 "NeverCrossModel" "seenSet" "I" ∈ goodTbl := q_in 812 (by decide +kernel) rfl
theorem fg118_141 : q_fok 118 141 11 24 := ⟨RX12, TX12, 28, rfl, ingX12, Nat.le_of_ble_eq_true rfl, rfl, lf_X12_141⟩
theorem lf_X12_144 : Cond.fieldLink "NeverCrossModel" 144 "NeverCrossModel" "fitting" "I" ∈ goodTbl := q_in 810 (by decide +kernel) rfl
theorem fg118_144 : q_fok 118 144 11 22 := ⟨RX12, TX12, 28, rfl, ingX12, Nat.le_of_ble_eq_true rfl, rfl, lf_X12_144⟩
theorem fp118_144 : q_pok 118 144 11 22 .int := ⟨RX12, TX12, 28, tyX12, rfl, ingX12, Nat.le_of_ble_eq_true rfl, rfl, lf_X12_144, tyX12_ok, nmX12, rfl, rfl⟩
theorem lf_X12_52 : Cond.fieldLink "NeverCrossModel" 52 "NeverCrossModel" "usedBy" "[I" ∈ goodTbl := q_in 806 (by decide +kernel) rfl
theorem fg118_52 : q_fok 118 52 11 18 := ⟨RX12, TX12, 28, rfl, ingX12, Nat.le_of_ble_eq_true rfl, rfl, lf_X12_52⟩
theorem fg118_13 : q_fok 118 13 11 1 := ⟨RX12, TX12, 28, rfl, ingX12, Nat.le_of_ble_eq_true rfl, rfl, lf_X12_13⟩
theorem fg118_28 : q_fok 118 28 11 10 := ⟨RX12, TX12, 28, rfl, ingX12, Nat.le_of_ble_eq_true rfl, rfl, lf_X12_28⟩
theorem lf_X12_46 : Cond.fieldLink "NeverCrossModel" 46 "NeverCrossModel" "picked" "[I" ∈ goodTbl := q_in 804 (by decide +kernel) rfl
theorem fg118_46 : q_fok 118 46 11 16 := ⟨RX12, TX12, 28, rfl, ingX12, Nat.le_of_ble_eq_true rfl, rfl, lf_X12_46⟩
theorem lf_X12_55 : Cond.fieldLink "NeverCrossModel" 55 "NeverCrossModel" "whoIn" "[I" ∈ goodTbl := q_in 807 (by decide +kernel) rfl
theorem fg118_55 : q_fok 118 55 11 19 := ⟨RX12, TX12, 28, rfl, ingX12, Nat.le_of_ble_eq_true rfl, rfl, lf_X12_55⟩
theorem lf_X12_147 : Cond.fieldLink "NeverCrossModel" 147 "NeverCrossModel" "families" "I" ∈ goodTbl := q_in 808 (by decide +kernel) rfl
theorem fg118_147 : q_fok 118 147 11 20 := ⟨RX12, TX12, 28, rfl, ingX12, Nat.le_of_ble_eq_true rfl, rfl, lf_X12_147⟩
theorem lf_X12_150 : Cond.fieldLink "NeverCrossModel" 150 "NeverCrossModel" "wanted" "I" ∈ goodTbl := q_in 811 (by decide +kernel) rfl
theorem fg118_150 : q_fok 118 150 11 23 := ⟨RX12, TX12, 28, rfl, ingX12, Nat.le_of_ble_eq_true rfl, rfl, lf_X12_150⟩
theorem lf_X12_49 : Cond.fieldLink "NeverCrossModel" 49 "NeverCrossModel" "foundPick" "[I" ∈ goodTbl := q_in 805 (by decide +kernel) rfl
theorem fg118_49 : q_fok 118 49 11 17 := ⟨RX12, TX12, 28, rfl, ingX12, Nat.le_of_ble_eq_true rfl, rfl, lf_X12_49⟩
theorem fp118_147 : q_pok 118 147 11 20 .int := ⟨RX12, TX12, 28, tyX12, rfl, ingX12, Nat.le_of_ble_eq_true rfl, rfl, lf_X12_147, tyX12_ok, nmX12, rfl, rfl⟩
theorem fg119_13 : q_fok 119 13 11 1 := ⟨RX12, TX12, 28, rfl, ingX12, Nat.le_of_ble_eq_true rfl, rfl, lf_X12_13⟩
theorem fg119_40 : q_fok 119 40 11 14 := ⟨RX12, TX12, 28, rfl, ingX12, Nat.le_of_ble_eq_true rfl, rfl, lf_X12_40⟩
theorem lf_X12_43 : Cond.fieldLink "NeverCrossModel" 43 "NeverCrossModel" "wants" "[I" ∈ goodTbl := q_in 803 (by decide +kernel) rfl
theorem fg119_43 : q_fok 119 43 11 15 := ⟨RX12, TX12, 28, rfl, ingX12, Nat.le_of_ble_eq_true rfl, rfl, lf_X12_43⟩
theorem fg119_37 : q_fok 119 37 11 13 := ⟨RX12, TX12, 28, rfl, ingX12, Nat.le_of_ble_eq_true rfl, rfl, lf_X12_37⟩
theorem fg119_28 : q_fok 119 28 11 10 := ⟨RX12, TX12, 28, rfl, ingX12, Nat.le_of_ble_eq_true rfl, rfl, lf_X12_28⟩
theorem fg119_46 : q_fok 119 46 11 16 := ⟨RX12, TX12, 28, rfl, ingX12, Nat.le_of_ble_eq_true rfl, rfl, lf_X12_46⟩
theorem fp120_147 : q_pok 120 147 11 20 .int := ⟨RX12, TX12, 28, tyX12, rfl, ingX12, Nat.le_of_ble_eq_true rfl, rfl, lf_X12_147, tyX12_ok, nmX12, rfl, rfl⟩
theorem fp120_138 : q_pok 120 138 11 21 .int := ⟨RX12, TX12, 28, tyX12, rfl, ingX12, Nat.le_of_ble_eq_true rfl, rfl, lf_X12_138, tyX12_ok, nmX12, rfl, rfl⟩
theorem fp120_144 : q_pok 120 144 11 22 .int := ⟨RX12, TX12, 28, tyX12, rfl, ingX12, Nat.le_of_ble_eq_true rfl, rfl, lf_X12_144, tyX12_ok, nmX12, rfl, rfl⟩
theorem fp120_150 : q_pok 120 150 11 23 .int := ⟨RX12, TX12, 28, tyX12, rfl, ingX12, Nat.le_of_ble_eq_true rfl, rfl, lf_X12_150, tyX12_ok, nmX12, rfl, rfl⟩
theorem fp120_141 : q_pok 120 141 11 24 .int := ⟨RX12, TX12, 28, tyX12, rfl, ingX12, Nat.le_of_ble_eq_true rfl, rfl, lf_X12_141, tyX12_ok, nmX12, rfl, rfl⟩
theorem fg120_13 : q_fok 120 13 11 1 := ⟨RX12, TX12, 28, rfl, ingX12, Nat.le_of_ble_eq_true rfl, rfl, lf_X12_13⟩
theorem fg120_141 : q_fok 120 141 11 24 := ⟨RX12, TX12, 28, rfl, ingX12, Nat.le_of_ble_eq_true rfl, rfl, lf_X12_141⟩
theorem fg120_52 : q_fok 120 52 11 18 := ⟨RX12, TX12, 28, rfl, ingX12, Nat.le_of_ble_eq_true rfl, rfl, lf_X12_52⟩
theorem fg120_55 : q_fok 120 55 11 19 := ⟨RX12, TX12, 28, rfl, ingX12, Nat.le_of_ble_eq_true rfl, rfl, lf_X12_55⟩
theorem fg121_13 : q_fok 121 13 11 1 := ⟨RX12, TX12, 28, rfl, ingX12, Nat.le_of_ble_eq_true rfl, rfl, lf_X12_13⟩
theorem fg122_13 : q_fok 122 13 11 1 := ⟨RX12, TX12, 28, rfl, ingX12, Nat.le_of_ble_eq_true rfl, rfl, lf_X12_13⟩
theorem fg122_43 : q_fok 122 43 11 15 := ⟨RX12, TX12, 28, rfl, ingX12, Nat.le_of_ble_eq_true rfl, rfl, lf_X12_43⟩
theorem fg123_13 : q_fok 123 13 11 1 := ⟨RX12, TX12, 28, rfl, ingX12, Nat.le_of_ble_eq_true rfl, rfl, lf_X12_13⟩
theorem fg123_43 : q_fok 123 43 11 15 := ⟨RX12, TX12, 28, rfl, ingX12, Nat.le_of_ble_eq_true rfl, rfl, lf_X12_43⟩
theorem fg123_25 : q_fok 123 25 11 9 := ⟨RX12, TX12, 28, rfl, ingX12, Nat.le_of_ble_eq_true rfl, rfl, lf_X12_25⟩
theorem fg123_147 : q_fok 123 147 11 20 := ⟨RX12, TX12, 28, rfl, ingX12, Nat.le_of_ble_eq_true rfl, rfl, lf_X12_147⟩
theorem fg124_13 : q_fok 124 13 11 1 := ⟨RX12, TX12, 28, rfl, ingX12, Nat.le_of_ble_eq_true rfl, rfl, lf_X12_13⟩
theorem fg125_147 : q_fok 125 147 11 20 := ⟨RX12, TX12, 28, rfl, ingX12, Nat.le_of_ble_eq_true rfl, rfl, lf_X12_147⟩
theorem fg127_13 : q_fok 127 13 11 1 := ⟨RX12, TX12, 28, rfl, ingX12, Nat.le_of_ble_eq_true rfl, rfl, lf_X12_13⟩
theorem fg129_13 : q_fok 129 13 11 1 := ⟨RX12, TX12, 28, rfl, ingX12, Nat.le_of_ble_eq_true rfl, rfl, lf_X12_13⟩
theorem fg129_25 : q_fok 129 25 11 9 := ⟨RX12, TX12, 28, rfl, ingX12, Nat.le_of_ble_eq_true rfl, rfl, lf_X12_25⟩
theorem fg131_138 : q_fok 131 138 11 21 := ⟨RX12, TX12, 28, rfl, ingX12, Nat.le_of_ble_eq_true rfl, rfl, lf_X12_138⟩
theorem fg133_147 : q_fok 133 147 11 20 := ⟨RX12, TX12, 28, rfl, ingX12, Nat.le_of_ble_eq_true rfl, rfl, lf_X12_147⟩
theorem fg133_52 : q_fok 133 52 11 18 := ⟨RX12, TX12, 28, rfl, ingX12, Nat.le_of_ble_eq_true rfl, rfl, lf_X12_52⟩
theorem fg134_147 : q_fok 134 147 11 20 := ⟨RX12, TX12, 28, rfl, ingX12, Nat.le_of_ble_eq_true rfl, rfl, lf_X12_147⟩
theorem fg134_49 : q_fok 134 49 11 17 := ⟨RX12, TX12, 28, rfl, ingX12, Nat.le_of_ble_eq_true rfl, rfl, lf_X12_49⟩
theorem fg134_34 : q_fok 134 34 11 12 := ⟨RX12, TX12, 28, rfl, ingX12, Nat.le_of_ble_eq_true rfl, rfl, lf_X12_34⟩
theorem fg134_31 : q_fok 134 31 11 11 := ⟨RX12, TX12, 28, rfl, ingX12, Nat.le_of_ble_eq_true rfl, rfl, lf_X12_31⟩
theorem fg137_13 : q_fok 137 13 11 1 := ⟨RX12, TX12, 28, rfl, ingX12, Nat.le_of_ble_eq_true rfl, rfl, lf_X12_13⟩
theorem fg137_40 : q_fok 137 40 11 14 := ⟨RX12, TX12, 28, rfl, ingX12, Nat.le_of_ble_eq_true rfl, rfl, lf_X12_40⟩
theorem fg137_28 : q_fok 137 28 11 10 := ⟨RX12, TX12, 28, rfl, ingX12, Nat.le_of_ble_eq_true rfl, rfl, lf_X12_28⟩
theorem fg140_13 : q_fok 140 13 11 1 := ⟨RX12, TX12, 28, rfl, ingX12, Nat.le_of_ble_eq_true rfl, rfl, lf_X12_13⟩
theorem fg141_13 : q_fok 141 13 11 1 := ⟨RX12, TX12, 28, rfl, ingX12, Nat.le_of_ble_eq_true rfl, rfl, lf_X12_13⟩
theorem fg142_144 : q_fok 142 144 11 22 := ⟨RX12, TX12, 28, rfl, ingX12, Nat.le_of_ble_eq_true rfl, rfl, lf_X12_144⟩
theorem fg143_55 : q_fok 143 55 11 19 := ⟨RX12, TX12, 28, rfl, ingX12, Nat.le_of_ble_eq_true rfl, rfl, lf_X12_55⟩
theorem fg144_13 : q_fok 144 13 11 1 := ⟨RX12, TX12, 28, rfl, ingX12, Nat.le_of_ble_eq_true rfl, rfl, lf_X12_13⟩
theorem fg145_13 : q_fok 145 13 11 1 := ⟨RX12, TX12, 28, rfl, ingX12, Nat.le_of_ble_eq_true rfl, rfl, lf_X12_13⟩
theorem lf_X12_58 : Cond.fieldLink "NeverCrossModel" 58 "NeverCrossModel" "keptRow" "[I" ∈ goodTbl := q_in 813 (by decide +kernel) rfl
theorem fg145_58 : q_fok 145 58 11 25 := ⟨RX12, TX12, 28, rfl, ingX12, Nat.le_of_ble_eq_true rfl, rfl, lf_X12_58⟩
theorem fg145_43 : q_fok 145 43 11 15 := ⟨RX12, TX12, 28, rfl, ingX12, Nat.le_of_ble_eq_true rfl, rfl, lf_X12_43⟩
theorem fg145_147 : q_fok 145 147 11 20 := ⟨RX12, TX12, 28, rfl, ingX12, Nat.le_of_ble_eq_true rfl, rfl, lf_X12_147⟩
theorem fg148_13 : q_fok 148 13 11 1 := ⟨RX12, TX12, 28, rfl, ingX12, Nat.le_of_ble_eq_true rfl, rfl, lf_X12_13⟩
theorem fg149_13 : q_fok 149 13 11 1 := ⟨RX12, TX12, 28, rfl, ingX12, Nat.le_of_ble_eq_true rfl, rfl, lf_X12_13⟩
theorem lf_X12_61 : Cond.fieldLink "NeverCrossModel" 61 "NeverCrossModel" "toldEnd" "[I" ∈ goodTbl := q_in 814 (by decide +kernel) rfl
theorem fg149_61 : q_fok 149 61 11 26 := ⟨RX12, TX12, 28, rfl, ingX12, Nat.le_of_ble_eq_true rfl, rfl, lf_X12_61⟩
theorem lf_X12_209 : Cond.fieldLink "NeverCrossModel" 209 "NeverCrossModel" "walked" "I" ∈ goodTbl := q_in 815 (by decide +kernel) rfl
theorem fp149_209 : q_pok 149 209 11 27 .int := ⟨RX12, TX12, 28, tyX12, rfl, ingX12, Nat.le_of_ble_eq_true rfl, rfl, lf_X12_209, tyX12_ok, nmX12, rfl, rfl⟩
theorem fg150_13 : q_fok 150 13 11 1 := ⟨RX12, TX12, 28, rfl, ingX12, Nat.le_of_ble_eq_true rfl, rfl, lf_X12_13⟩
theorem fg150_209 : q_fok 150 209 11 27 := ⟨RX12, TX12, 28, rfl, ingX12, Nat.le_of_ble_eq_true rfl, rfl, lf_X12_209⟩
theorem fg150_61 : q_fok 150 61 11 26 := ⟨RX12, TX12, 28, rfl, ingX12, Nat.le_of_ble_eq_true rfl, rfl, lf_X12_61⟩
theorem fg151_13 : q_fok 151 13 11 1 := ⟨RX12, TX12, 28, rfl, ingX12, Nat.le_of_ble_eq_true rfl, rfl, lf_X12_13⟩
theorem fg152_13 : q_fok 152 13 11 1 := ⟨RX12, TX12, 28, rfl, ingX12, Nat.le_of_ble_eq_true rfl, rfl, lf_X12_13⟩
theorem lf_X12_16 : Cond.fieldLink "NeverCrossModel" 16 "NeverCrossModel" "image" "[I" ∈ goodTbl := q_in 790 (by decide +kernel) rfl
theorem fg152_16 : q_fok 152 16 11 2 := ⟨RX12, TX12, 28, rfl, ingX12, Nat.le_of_ble_eq_true rfl, rfl, lf_X12_16⟩
theorem lf_X12_215 : Cond.fieldLink "NeverCrossModel" 215 "NeverCrossModel" "isImage" "Z" ∈ goodTbl := q_in 792 (by decide +kernel) rfl
theorem fp152_215 : q_pok 152 215 11 4 .boolean := ⟨RX12, TX12, 28, tyX12, rfl, ingX12, Nat.le_of_ble_eq_true rfl, rfl, lf_X12_215, tyX12_ok, nmX12, rfl, rfl⟩
theorem fg153_215 : q_fok 153 215 11 4 := ⟨RX12, TX12, 28, rfl, ingX12, Nat.le_of_ble_eq_true rfl, rfl, lf_X12_215⟩
theorem fg153_16 : q_fok 153 16 11 2 := ⟨RX12, TX12, 28, rfl, ingX12, Nat.le_of_ble_eq_true rfl, rfl, lf_X12_16⟩
theorem fg153_13 : q_fok 153 13 11 1 := ⟨RX12, TX12, 28, rfl, ingX12, Nat.le_of_ble_eq_true rfl, rfl, lf_X12_13⟩
theorem fg154_7 : q_fok 154 7 11 0 := ⟨RX12, TX12, 28, rfl, ingX12, Nat.le_of_ble_eq_true rfl, rfl, lf_X12_7⟩
theorem fg154_13 : q_fok 154 13 11 1 := ⟨RX12, TX12, 28, rfl, ingX12, Nat.le_of_ble_eq_true rfl, rfl, lf_X12_13⟩
theorem fg154_76 : q_fok 154 76 11 6 := ⟨RX12, TX12, 28, rfl, ingX12, Nat.le_of_ble_eq_true rfl, rfl, lf_X12_76⟩
theorem ld51_161 : Cond.constant (q_mY 51).cls 161 1000000000 ∈ goodTbl := q_in 606 (by decide +kernel) rfl
theorem ld61_216 : Cond.constant (q_mY 61).cls 216 2147483647 ∈ goodTbl := q_in 684 (by decide +kernel) rfl
theorem ld82_300 : Cond.constant (q_mY 82).cls 300 1664525 ∈ goodTbl := q_in 682 (by decide +kernel) rfl
theorem ld82_301 : Cond.constant (q_mY 82).cls 301 1013904223 ∈ goodTbl := q_in 683 (by decide +kernel) rfl
theorem ld82_216 : Cond.constant (q_mY 82).cls 216 2147483647 ∈ goodTbl := q_in 684 (by decide +kernel) rfl
theorem ld128_183 : Cond.constant (q_mY 128).cls 183 1000000000 ∈ goodTbl := q_in 1015 (by decide +kernel) rfl
theorem ld136_193 : Cond.constant (q_mY 136).cls 193 1664525 ∈ goodTbl := q_in 1051 (by decide +kernel) rfl
theorem ld136_194 : Cond.constant (q_mY 136).cls 194 1013904223 ∈ goodTbl := q_in 1052 (by decide +kernel) rfl
theorem ld136_195 : Cond.constant (q_mY 136).cls 195 2147483647 ∈ goodTbl := q_in 1053 (by decide +kernel) rfl
theorem ld155_265 : Cond.constant (q_mY 155).cls 265 1431655765 ∈ goodTbl := q_in 614 (by decide +kernel) rfl
theorem ld155_266 : Cond.constant (q_mY 155).cls 266 858993459 ∈ goodTbl := q_in 615 (by decide +kernel) rfl
theorem ld155_267 : Cond.constant (q_mY 155).cls 267 252645135 ∈ goodTbl := q_in 616 (by decide +kernel) rfl
theorem om0 : q_okM 0 3 := ⟨by decide +kernel, q_in 572 (by decide +kernel) rfl, q_in 63 (by decide +kernel) rfl, by decide +kernel, by decide +kernel⟩
theorem om1 : q_okM 1 4 := ⟨by decide +kernel, q_in 663 (by decide +kernel) rfl, q_in 67 (by decide +kernel) rfl, by decide +kernel, by decide +kernel⟩
theorem ov1 : q_okV 1 4 1 := ⟨⟨_, _, rfl⟩, om1, q_in 661 (by decide +kernel) rfl, q_in 662 (by decide +kernel) rfl, by decide +kernel⟩
theorem om2 : q_okM 2 2 := ⟨by decide +kernel, q_in 668 (by decide +kernel) rfl, q_in 67 (by decide +kernel) rfl, by decide +kernel, by decide +kernel⟩
theorem ov2 : q_okV 2 2 1 := ⟨⟨_, _, rfl⟩, om2, q_in 667 (by decide +kernel) rfl, q_in 21 (by decide +kernel) rfl, by decide +kernel⟩
theorem om3 : q_okM 3 1 := ⟨by decide +kernel, q_in 772 (by decide +kernel) rfl, q_in 58 (by decide +kernel) rfl, by decide +kernel, by decide +kernel⟩
theorem ov3 : q_okV 3 1 2 := ⟨⟨_, _, rfl⟩, om3, q_in 770 (by decide +kernel) rfl, q_in 771 (by decide +kernel) rfl, by decide +kernel⟩
theorem om4 : q_okM 4 2 := ⟨by decide +kernel, q_in 421 (by decide +kernel) rfl, q_in 58 (by decide +kernel) rfl, by decide +kernel, by decide +kernel⟩
theorem ov4 : q_okV 4 2 2 := ⟨⟨_, _, rfl⟩, om4, q_in 419 (by decide +kernel) rfl, q_in 420 (by decide +kernel) rfl, by decide +kernel⟩
theorem om5 : q_okM 5 0 := ⟨by decide +kernel, q_in 441 (by decide +kernel) rfl, q_in 58 (by decide +kernel) rfl, by decide +kernel, by decide +kernel⟩
theorem ov5 : q_okV 5 0 2 := ⟨⟨_, _, rfl⟩, om5, q_in 439 (by decide +kernel) rfl, q_in 440 (by decide +kernel) rfl, by decide +kernel⟩
theorem om6 : q_okM 6 0 := ⟨by decide +kernel, q_in 704 (by decide +kernel) rfl, q_in 58 (by decide +kernel) rfl, by decide +kernel, by decide +kernel⟩
theorem ov6 : q_okV 6 0 2 := ⟨⟨_, _, rfl⟩, om6, q_in 702 (by decide +kernel) rfl, q_in 703 (by decide +kernel) rfl, by decide +kernel⟩
theorem om7 : q_okM 7 0 := ⟨by decide +kernel, q_in 739 (by decide +kernel) rfl, q_in 58 (by decide +kernel) rfl, by decide +kernel, by decide +kernel⟩
theorem ov7 : q_okV 7 0 2 := ⟨⟨_, _, rfl⟩, om7, q_in 737 (by decide +kernel) rfl, q_in 738 (by decide +kernel) rfl, by decide +kernel⟩
theorem om8 : q_okM 8 1 := ⟨by decide +kernel, q_in 749 (by decide +kernel) rfl, q_in 58 (by decide +kernel) rfl, by decide +kernel, by decide +kernel⟩
theorem ov8 : q_okV 8 1 2 := ⟨⟨_, _, rfl⟩, om8, q_in 747 (by decide +kernel) rfl, q_in 748 (by decide +kernel) rfl, by decide +kernel⟩
theorem om9 : q_okM 9 1 := ⟨by decide +kernel, q_in 758 (by decide +kernel) rfl, q_in 58 (by decide +kernel) rfl, by decide +kernel, by decide +kernel⟩
theorem ov9 : q_okV 9 1 2 := ⟨⟨_, _, rfl⟩, om9, q_in 757 (by decide +kernel) rfl, q_in 23 (by decide +kernel) rfl, by decide +kernel⟩
theorem om10 : q_okM 10 0 := ⟨by decide +kernel, q_in 754 (by decide +kernel) rfl, q_in 58 (by decide +kernel) rfl, by decide +kernel, by decide +kernel⟩
theorem ov10 : q_okV 10 0 2 := ⟨⟨_, _, rfl⟩, om10, q_in 752 (by decide +kernel) rfl, q_in 753 (by decide +kernel) rfl, by decide +kernel⟩
theorem om11 : q_okM 11 3 := ⟨by decide +kernel, q_in 566 (by decide +kernel) rfl, q_in 59 (by decide +kernel) rfl, by decide +kernel, by decide +kernel⟩
theorem om12 : q_okM 12 3 := ⟨by decide +kernel, q_in 582 (by decide +kernel) rfl, q_in 62 (by decide +kernel) rfl, by decide +kernel, by decide +kernel⟩
theorem om13 : q_okM 13 3 := ⟨by decide +kernel, q_in 593 (by decide +kernel) rfl, q_in 60 (by decide +kernel) rfl, by decide +kernel, by decide +kernel⟩
theorem ov13 : q_okV 13 3 4 := ⟨⟨_, _, rfl⟩, om13, q_in 577 (by decide +kernel) rfl, q_in 578 (by decide +kernel) rfl, by decide +kernel⟩
theorem om14 : q_okM 14 3 := ⟨by decide +kernel, q_in 575 (by decide +kernel) rfl, q_in 60 (by decide +kernel) rfl, by decide +kernel, by decide +kernel⟩
theorem om15 : q_okM 15 1 := ⟨by decide +kernel, q_in 425 (by decide +kernel) rfl, q_in 57 (by decide +kernel) rfl, by decide +kernel, by decide +kernel⟩
theorem ov15 : q_okV 15 1 5 := ⟨⟨_, _, rfl⟩, om15, q_in 423 (by decide +kernel) rfl, q_in 424 (by decide +kernel) rfl, by decide +kernel⟩
theorem om16 : q_okM 16 2 := ⟨by decide +kernel, q_in 387 (by decide +kernel) rfl, q_in 57 (by decide +kernel) rfl, by decide +kernel, by decide +kernel⟩
theorem ov16 : q_okV 16 2 5 := ⟨⟨_, _, rfl⟩, om16, q_in 385 (by decide +kernel) rfl, q_in 386 (by decide +kernel) rfl, by decide +kernel⟩
theorem om17 : q_okM 17 0 := ⟨by decide +kernel, q_in 391 (by decide +kernel) rfl, q_in 57 (by decide +kernel) rfl, by decide +kernel, by decide +kernel⟩
theorem ov17 : q_okV 17 0 5 := ⟨⟨_, _, rfl⟩, om17, q_in 390 (by decide +kernel) rfl, q_in 1 (by decide +kernel) rfl, by decide +kernel⟩
theorem om18 : q_okM 18 0 := ⟨by decide +kernel, q_in 401 (by decide +kernel) rfl, q_in 57 (by decide +kernel) rfl, by decide +kernel, by decide +kernel⟩
theorem ov18 : q_okV 18 0 5 := ⟨⟨_, _, rfl⟩, om18, q_in 400 (by decide +kernel) rfl, q_in 2 (by decide +kernel) rfl, by decide +kernel⟩
theorem om19 : q_okM 19 1 := ⟨by decide +kernel, q_in 405 (by decide +kernel) rfl, q_in 57 (by decide +kernel) rfl, by decide +kernel, by decide +kernel⟩
theorem ov19 : q_okV 19 1 5 := ⟨⟨_, _, rfl⟩, om19, q_in 404 (by decide +kernel) rfl, q_in 3 (by decide +kernel) rfl, by decide +kernel⟩
theorem om20 : q_okM 20 3 := ⟨by decide +kernel, q_in 413 (by decide +kernel) rfl, q_in 57 (by decide +kernel) rfl, by decide +kernel, by decide +kernel⟩
theorem ov20 : q_okV 20 3 5 := ⟨⟨_, _, rfl⟩, om20, q_in 412 (by decide +kernel) rfl, q_in 5 (by decide +kernel) rfl, by decide +kernel⟩
theorem om21 : q_okM 21 3 := ⟨by decide +kernel, q_in 409 (by decide +kernel) rfl, q_in 57 (by decide +kernel) rfl, by decide +kernel, by decide +kernel⟩
theorem ov21 : q_okV 21 3 5 := ⟨⟨_, _, rfl⟩, om21, q_in 408 (by decide +kernel) rfl, q_in 4 (by decide +kernel) rfl, by decide +kernel⟩
theorem om22 : q_okM 22 0 := ⟨by decide +kernel, q_in 417 (by decide +kernel) rfl, q_in 57 (by decide +kernel) rfl, by decide +kernel, by decide +kernel⟩
theorem ov22 : q_okV 22 0 5 := ⟨⟨_, _, rfl⟩, om22, q_in 416 (by decide +kernel) rfl, q_in 6 (by decide +kernel) rfl, by decide +kernel⟩
theorem om23 : q_okM 23 1 := ⟨by decide +kernel, q_in 449 (by decide +kernel) rfl, q_in 57 (by decide +kernel) rfl, by decide +kernel, by decide +kernel⟩
theorem ov23 : q_okV 23 1 5 := ⟨⟨_, _, rfl⟩, om23, q_in 447 (by decide +kernel) rfl, q_in 448 (by decide +kernel) rfl, by decide +kernel⟩
theorem om24 : q_okM 24 1 := ⟨by decide +kernel, q_in 475 (by decide +kernel) rfl, q_in 57 (by decide +kernel) rfl, by decide +kernel, by decide +kernel⟩
theorem ov24 : q_okV 24 1 5 := ⟨⟨_, _, rfl⟩, om24, q_in 473 (by decide +kernel) rfl, q_in 474 (by decide +kernel) rfl, by decide +kernel⟩
theorem om25 : q_okM 25 1 := ⟨by decide +kernel, q_in 483 (by decide +kernel) rfl, q_in 57 (by decide +kernel) rfl, by decide +kernel, by decide +kernel⟩
theorem ov25 : q_okV 25 1 5 := ⟨⟨_, _, rfl⟩, om25, q_in 481 (by decide +kernel) rfl, q_in 482 (by decide +kernel) rfl, by decide +kernel⟩
theorem om26 : q_okM 26 1 := ⟨by decide +kernel, q_in 488 (by decide +kernel) rfl, q_in 57 (by decide +kernel) rfl, by decide +kernel, by decide +kernel⟩
theorem ov26 : q_okV 26 1 5 := ⟨⟨_, _, rfl⟩, om26, q_in 486 (by decide +kernel) rfl, q_in 487 (by decide +kernel) rfl, by decide +kernel⟩
theorem om27 : q_okM 27 2 := ⟨by decide +kernel, q_in 493 (by decide +kernel) rfl, q_in 57 (by decide +kernel) rfl, by decide +kernel, by decide +kernel⟩
theorem ov27 : q_okV 27 2 5 := ⟨⟨_, _, rfl⟩, om27, q_in 491 (by decide +kernel) rfl, q_in 492 (by decide +kernel) rfl, by decide +kernel⟩
theorem om28 : q_okM 28 2 := ⟨by decide +kernel, q_in 479 (by decide +kernel) rfl, q_in 57 (by decide +kernel) rfl, by decide +kernel, by decide +kernel⟩
theorem ov28 : q_okV 28 2 5 := ⟨⟨_, _, rfl⟩, om28, q_in 477 (by decide +kernel) rfl, q_in 478 (by decide +kernel) rfl, by decide +kernel⟩
theorem om29 : q_okM 29 3 := ⟨by decide +kernel, q_in 672 (by decide +kernel) rfl, q_in 57 (by decide +kernel) rfl, by decide +kernel, by decide +kernel⟩
theorem ov29 : q_okV 29 3 5 := ⟨⟨_, _, rfl⟩, om29, q_in 670 (by decide +kernel) rfl, q_in 671 (by decide +kernel) rfl, by decide +kernel⟩
theorem om30 : q_okM 30 0 := ⟨by decide +kernel, q_in 524 (by decide +kernel) rfl, q_in 66 (by decide +kernel) rfl, by decide +kernel, by decide +kernel⟩
theorem ov30 : q_okV 30 0 6 := ⟨⟨_, _, rfl⟩, om30, q_in 522 (by decide +kernel) rfl, q_in 523 (by decide +kernel) rfl, by decide +kernel⟩
theorem om31 : q_okM 31 4 := ⟨by decide +kernel, q_in 529 (by decide +kernel) rfl, q_in 66 (by decide +kernel) rfl, by decide +kernel, by decide +kernel⟩
theorem ov31 : q_okV 31 4 6 := ⟨⟨_, _, rfl⟩, om31, q_in 528 (by decide +kernel) rfl, q_in 12 (by decide +kernel) rfl, by decide +kernel⟩
theorem om32 : q_okM 32 3 := ⟨by decide +kernel, q_in 533 (by decide +kernel) rfl, q_in 66 (by decide +kernel) rfl, by decide +kernel, by decide +kernel⟩
theorem ov32 : q_okV 32 3 6 := ⟨⟨_, _, rfl⟩, om32, q_in 532 (by decide +kernel) rfl, q_in 13 (by decide +kernel) rfl, by decide +kernel⟩
theorem om33 : q_okM 33 2 := ⟨by decide +kernel, q_in 538 (by decide +kernel) rfl, q_in 66 (by decide +kernel) rfl, by decide +kernel, by decide +kernel⟩
theorem ov33 : q_okV 33 2 6 := ⟨⟨_, _, rfl⟩, om33, q_in 537 (by decide +kernel) rfl, q_in 14 (by decide +kernel) rfl, by decide +kernel⟩
theorem om34 : q_okM 34 1 := ⟨by decide +kernel, q_in 545 (by decide +kernel) rfl, q_in 66 (by decide +kernel) rfl, by decide +kernel, by decide +kernel⟩
theorem ov34 : q_okV 34 1 6 := ⟨⟨_, _, rfl⟩, om34, q_in 544 (by decide +kernel) rfl, q_in 15 (by decide +kernel) rfl, by decide +kernel⟩
theorem om35 : q_okM 35 1 := ⟨by decide +kernel, q_in 601 (by decide +kernel) rfl, q_in 66 (by decide +kernel) rfl, by decide +kernel, by decide +kernel⟩
theorem ov35 : q_okV 35 1 6 := ⟨⟨_, _, rfl⟩, om35, q_in 599 (by decide +kernel) rfl, q_in 600 (by decide +kernel) rfl, by decide +kernel⟩
theorem om36 : q_okM 36 1 := ⟨by decide +kernel, q_in 632 (by decide +kernel) rfl, q_in 66 (by decide +kernel) rfl, by decide +kernel, by decide +kernel⟩
theorem ov36 : q_okV 36 1 6 := ⟨⟨_, _, rfl⟩, om36, q_in 630 (by decide +kernel) rfl, q_in 631 (by decide +kernel) rfl, by decide +kernel⟩
theorem om37 : q_okM 37 2 := ⟨by decide +kernel, q_in 644 (by decide +kernel) rfl, q_in 66 (by decide +kernel) rfl, by decide +kernel, by decide +kernel⟩
theorem ov37 : q_okV 37 2 6 := ⟨⟨_, _, rfl⟩, om37, q_in 642 (by decide +kernel) rfl, q_in 643 (by decide +kernel) rfl, by decide +kernel⟩
theorem om38 : q_okM 38 2 := ⟨by decide +kernel, q_in 712 (by decide +kernel) rfl, q_in 66 (by decide +kernel) rfl, by decide +kernel, by decide +kernel⟩
theorem ov38 : q_okV 38 2 6 := ⟨⟨_, _, rfl⟩, om38, q_in 710 (by decide +kernel) rfl, q_in 711 (by decide +kernel) rfl, by decide +kernel⟩
theorem om39 : q_okM 39 3 := ⟨by decide +kernel, q_in 585 (by decide +kernel) rfl, q_in 64 (by decide +kernel) rfl, by decide +kernel, by decide +kernel⟩
theorem om40 : q_okM 40 3 := ⟨by decide +kernel, q_in 592 (by decide +kernel) rfl, q_in 61 (by decide +kernel) rfl, by decide +kernel, by decide +kernel⟩
theorem om41 : q_okM 41 1 := ⟨by decide +kernel, q_in 509 (by decide +kernel) rfl, q_in 65 (by decide +kernel) rfl, by decide +kernel, by decide +kernel⟩
theorem ov41 : q_okV 41 1 9 := ⟨⟨_, _, rfl⟩, om41, q_in 507 (by decide +kernel) rfl, q_in 508 (by decide +kernel) rfl, by decide +kernel⟩
theorem om42 : q_okM 42 4 := ⟨by decide +kernel, q_in 515 (by decide +kernel) rfl, q_in 65 (by decide +kernel) rfl, by decide +kernel, by decide +kernel⟩
theorem ov42 : q_okV 42 4 9 := ⟨⟨_, _, rfl⟩, om42, q_in 514 (by decide +kernel) rfl, q_in 10 (by decide +kernel) rfl, by decide +kernel⟩
theorem om43 : q_okM 43 3 := ⟨by decide +kernel, q_in 520 (by decide +kernel) rfl, q_in 65 (by decide +kernel) rfl, by decide +kernel, by decide +kernel⟩
theorem ov43 : q_okV 43 3 9 := ⟨⟨_, _, rfl⟩, om43, q_in 519 (by decide +kernel) rfl, q_in 11 (by decide +kernel) rfl, by decide +kernel⟩
theorem om44 : q_okM 44 1 := ⟨by decide +kernel, q_in 375 (by decide +kernel) rfl, q_in 56 (by decide +kernel) rfl, by decide +kernel, by decide +kernel⟩
theorem ov44 : q_okV 44 1 10 := ⟨⟨_, _, rfl⟩, om44, q_in 373 (by decide +kernel) rfl, q_in 374 (by decide +kernel) rfl, by decide +kernel⟩
theorem om45 : q_okM 45 0 := ⟨by decide +kernel, q_in 383 (by decide +kernel) rfl, q_in 56 (by decide +kernel) rfl, by decide +kernel, by decide +kernel⟩
theorem ov45 : q_okV 45 0 10 := ⟨⟨_, _, rfl⟩, om45, q_in 381 (by decide +kernel) rfl, q_in 382 (by decide +kernel) rfl, by decide +kernel⟩
theorem om46 : q_okM 46 2 := ⟨by decide +kernel, q_in 445 (by decide +kernel) rfl, q_in 56 (by decide +kernel) rfl, by decide +kernel, by decide +kernel⟩
theorem ov46 : q_okV 46 2 10 := ⟨⟨_, _, rfl⟩, om46, q_in 443 (by decide +kernel) rfl, q_in 444 (by decide +kernel) rfl, by decide +kernel⟩
theorem om47 : q_okM 47 1 := ⟨by decide +kernel, q_in 453 (by decide +kernel) rfl, q_in 56 (by decide +kernel) rfl, by decide +kernel, by decide +kernel⟩
theorem ov47 : q_okV 47 1 10 := ⟨⟨_, _, rfl⟩, om47, q_in 451 (by decide +kernel) rfl, q_in 452 (by decide +kernel) rfl, by decide +kernel⟩
theorem om48 : q_okM 48 1 := ⟨by decide +kernel, q_in 457 (by decide +kernel) rfl, q_in 56 (by decide +kernel) rfl, by decide +kernel, by decide +kernel⟩
theorem ov48 : q_okV 48 1 10 := ⟨⟨_, _, rfl⟩, om48, q_in 455 (by decide +kernel) rfl, q_in 456 (by decide +kernel) rfl, by decide +kernel⟩
theorem om49 : q_okM 49 2 := ⟨by decide +kernel, q_in 471 (by decide +kernel) rfl, q_in 56 (by decide +kernel) rfl, by decide +kernel, by decide +kernel⟩
theorem ov49 : q_okV 49 2 10 := ⟨⟨_, _, rfl⟩, om49, q_in 469 (by decide +kernel) rfl, q_in 470 (by decide +kernel) rfl, by decide +kernel⟩
theorem om50 : q_okM 50 0 := ⟨by decide +kernel, q_in 497 (by decide +kernel) rfl, q_in 56 (by decide +kernel) rfl, by decide +kernel, by decide +kernel⟩
theorem ov50 : q_okV 50 0 10 := ⟨⟨_, _, rfl⟩, om50, q_in 495 (by decide +kernel) rfl, q_in 496 (by decide +kernel) rfl, by decide +kernel⟩
theorem om51 : q_okM 51 0 := ⟨by decide +kernel, q_in 605 (by decide +kernel) rfl, q_in 56 (by decide +kernel) rfl, by decide +kernel, by decide +kernel⟩
theorem ov51 : q_okV 51 0 10 := ⟨⟨_, _, rfl⟩, om51, q_in 603 (by decide +kernel) rfl, q_in 604 (by decide +kernel) rfl, by decide +kernel⟩
theorem om52 : q_okM 52 0 := ⟨by decide +kernel, q_in 620 (by decide +kernel) rfl, q_in 56 (by decide +kernel) rfl, by decide +kernel, by decide +kernel⟩
theorem ov52 : q_okV 52 0 10 := ⟨⟨_, _, rfl⟩, om52, q_in 618 (by decide +kernel) rfl, q_in 619 (by decide +kernel) rfl, by decide +kernel⟩
theorem om53 : q_okM 53 1 := ⟨by decide +kernel, q_in 624 (by decide +kernel) rfl, q_in 56 (by decide +kernel) rfl, by decide +kernel, by decide +kernel⟩
theorem ov53 : q_okV 53 1 10 := ⟨⟨_, _, rfl⟩, om53, q_in 622 (by decide +kernel) rfl, q_in 623 (by decide +kernel) rfl, by decide +kernel⟩
theorem om54 : q_okM 54 0 := ⟨by decide +kernel, q_in 628 (by decide +kernel) rfl, q_in 56 (by decide +kernel) rfl, by decide +kernel, by decide +kernel⟩
theorem ov54 : q_okV 54 0 10 := ⟨⟨_, _, rfl⟩, om54, q_in 626 (by decide +kernel) rfl, q_in 627 (by decide +kernel) rfl, by decide +kernel⟩
theorem om55 : q_okM 55 2 := ⟨by decide +kernel, q_in 636 (by decide +kernel) rfl, q_in 56 (by decide +kernel) rfl, by decide +kernel, by decide +kernel⟩
theorem ov55 : q_okV 55 2 10 := ⟨⟨_, _, rfl⟩, om55, q_in 634 (by decide +kernel) rfl, q_in 635 (by decide +kernel) rfl, by decide +kernel⟩
theorem om56 : q_okM 56 3 := ⟨by decide +kernel, q_in 655 (by decide +kernel) rfl, q_in 56 (by decide +kernel) rfl, by decide +kernel, by decide +kernel⟩
theorem ov56 : q_okV 56 3 10 := ⟨⟨_, _, rfl⟩, om56, q_in 653 (by decide +kernel) rfl, q_in 654 (by decide +kernel) rfl, by decide +kernel⟩
theorem om57 : q_okM 57 3 := ⟨by decide +kernel, q_in 678 (by decide +kernel) rfl, q_in 56 (by decide +kernel) rfl, by decide +kernel, by decide +kernel⟩
theorem ov57 : q_okV 57 3 10 := ⟨⟨_, _, rfl⟩, om57, q_in 676 (by decide +kernel) rfl, q_in 677 (by decide +kernel) rfl, by decide +kernel⟩
theorem om58 : q_okM 58 0 := ⟨by decide +kernel, q_in 688 (by decide +kernel) rfl, q_in 56 (by decide +kernel) rfl, by decide +kernel, by decide +kernel⟩
theorem ov58 : q_okV 58 0 10 := ⟨⟨_, _, rfl⟩, om58, q_in 686 (by decide +kernel) rfl, q_in 687 (by decide +kernel) rfl, by decide +kernel⟩
theorem om59 : q_okM 59 0 := ⟨by decide +kernel, q_in 692 (by decide +kernel) rfl, q_in 56 (by decide +kernel) rfl, by decide +kernel, by decide +kernel⟩
theorem ov59 : q_okV 59 0 10 := ⟨⟨_, _, rfl⟩, om59, q_in 690 (by decide +kernel) rfl, q_in 691 (by decide +kernel) rfl, by decide +kernel⟩
theorem om60 : q_okM 60 1 := ⟨by decide +kernel, q_in 696 (by decide +kernel) rfl, q_in 56 (by decide +kernel) rfl, by decide +kernel, by decide +kernel⟩
theorem ov60 : q_okV 60 1 10 := ⟨⟨_, _, rfl⟩, om60, q_in 694 (by decide +kernel) rfl, q_in 695 (by decide +kernel) rfl, by decide +kernel⟩
theorem om61 : q_okM 61 0 := ⟨by decide +kernel, q_in 700 (by decide +kernel) rfl, q_in 56 (by decide +kernel) rfl, by decide +kernel, by decide +kernel⟩
theorem ov61 : q_okV 61 0 10 := ⟨⟨_, _, rfl⟩, om61, q_in 698 (by decide +kernel) rfl, q_in 699 (by decide +kernel) rfl, by decide +kernel⟩
theorem om62 : q_okM 62 1 := ⟨by decide +kernel, q_in 708 (by decide +kernel) rfl, q_in 56 (by decide +kernel) rfl, by decide +kernel, by decide +kernel⟩
theorem ov62 : q_okV 62 1 10 := ⟨⟨_, _, rfl⟩, om62, q_in 706 (by decide +kernel) rfl, q_in 707 (by decide +kernel) rfl, by decide +kernel⟩
theorem om63 : q_okM 63 1 := ⟨by decide +kernel, q_in 716 (by decide +kernel) rfl, q_in 56 (by decide +kernel) rfl, by decide +kernel, by decide +kernel⟩
theorem ov63 : q_okV 63 1 10 := ⟨⟨_, _, rfl⟩, om63, q_in 714 (by decide +kernel) rfl, q_in 715 (by decide +kernel) rfl, by decide +kernel⟩
theorem om64 : q_okM 64 0 := ⟨by decide +kernel, q_in 720 (by decide +kernel) rfl, q_in 56 (by decide +kernel) rfl, by decide +kernel, by decide +kernel⟩
theorem ov64 : q_okV 64 0 10 := ⟨⟨_, _, rfl⟩, om64, q_in 718 (by decide +kernel) rfl, q_in 719 (by decide +kernel) rfl, by decide +kernel⟩
theorem om65 : q_okM 65 3 := ⟨by decide +kernel, q_in 724 (by decide +kernel) rfl, q_in 56 (by decide +kernel) rfl, by decide +kernel, by decide +kernel⟩
theorem ov65 : q_okV 65 3 10 := ⟨⟨_, _, rfl⟩, om65, q_in 722 (by decide +kernel) rfl, q_in 723 (by decide +kernel) rfl, by decide +kernel⟩
theorem om66 : q_okM 66 2 := ⟨by decide +kernel, q_in 731 (by decide +kernel) rfl, q_in 56 (by decide +kernel) rfl, by decide +kernel, by decide +kernel⟩
theorem ov66 : q_okV 66 2 10 := ⟨⟨_, _, rfl⟩, om66, q_in 729 (by decide +kernel) rfl, q_in 730 (by decide +kernel) rfl, by decide +kernel⟩
theorem om67 : q_okM 67 0 := ⟨by decide +kernel, q_in 735 (by decide +kernel) rfl, q_in 56 (by decide +kernel) rfl, by decide +kernel, by decide +kernel⟩
theorem ov67 : q_okV 67 0 10 := ⟨⟨_, _, rfl⟩, om67, q_in 733 (by decide +kernel) rfl, q_in 734 (by decide +kernel) rfl, by decide +kernel⟩
theorem om68 : q_okM 68 0 := ⟨by decide +kernel, q_in 763 (by decide +kernel) rfl, q_in 56 (by decide +kernel) rfl, by decide +kernel, by decide +kernel⟩
theorem ov68 : q_okV 68 0 10 := ⟨⟨_, _, rfl⟩, om68, q_in 761 (by decide +kernel) rfl, q_in 762 (by decide +kernel) rfl, by decide +kernel⟩
theorem om69 : q_okM 69 0 := ⟨by decide +kernel, q_in 768 (by decide +kernel) rfl, q_in 56 (by decide +kernel) rfl, by decide +kernel, by decide +kernel⟩
theorem ov69 : q_okV 69 0 10 := ⟨⟨_, _, rfl⟩, om69, q_in 766 (by decide +kernel) rfl, q_in 767 (by decide +kernel) rfl, by decide +kernel⟩
theorem om70 : q_okM 70 0 := ⟨by decide +kernel, q_in 777 (by decide +kernel) rfl, q_in 56 (by decide +kernel) rfl, by decide +kernel, by decide +kernel⟩
theorem ov70 : q_okV 70 0 10 := ⟨⟨_, _, rfl⟩, om70, q_in 775 (by decide +kernel) rfl, q_in 776 (by decide +kernel) rfl, by decide +kernel⟩
theorem om71 : q_okM 71 1 := ⟨by decide +kernel, q_in 781 (by decide +kernel) rfl, q_in 56 (by decide +kernel) rfl, by decide +kernel, by decide +kernel⟩
theorem ov71 : q_okV 71 1 10 := ⟨⟨_, _, rfl⟩, om71, q_in 779 (by decide +kernel) rfl, q_in 780 (by decide +kernel) rfl, by decide +kernel⟩
theorem om72 : q_okM 72 1 := ⟨by decide +kernel, q_in 379 (by decide +kernel) rfl, q_in 56 (by decide +kernel) rfl, by decide +kernel, by decide +kernel⟩
theorem ov72 : q_okV 72 1 10 := ⟨⟨_, _, rfl⟩, om72, q_in 378 (by decide +kernel) rfl, q_in 0 (by decide +kernel) rfl, by decide +kernel⟩
theorem om73 : q_okM 73 0 := ⟨by decide +kernel, q_in 461 (by decide +kernel) rfl, q_in 56 (by decide +kernel) rfl, by decide +kernel, by decide +kernel⟩
theorem ov73 : q_okV 73 0 10 := ⟨⟨_, _, rfl⟩, om73, q_in 460 (by decide +kernel) rfl, q_in 7 (by decide +kernel) rfl, by decide +kernel⟩
theorem om74 : q_okM 74 0 := ⟨by decide +kernel, q_in 505 (by decide +kernel) rfl, q_in 56 (by decide +kernel) rfl, by decide +kernel, by decide +kernel⟩
theorem ov74 : q_okV 74 0 10 := ⟨⟨_, _, rfl⟩, om74, q_in 504 (by decide +kernel) rfl, q_in 9 (by decide +kernel) rfl, by decide +kernel⟩
theorem om75 : q_okM 75 0 := ⟨by decide +kernel, q_in 557 (by decide +kernel) rfl, q_in 56 (by decide +kernel) rfl, by decide +kernel, by decide +kernel⟩
theorem ov75 : q_okV 75 0 10 := ⟨⟨_, _, rfl⟩, om75, q_in 556 (by decide +kernel) rfl, q_in 17 (by decide +kernel) rfl, by decide +kernel⟩
theorem om76 : q_okM 76 0 := ⟨by decide +kernel, q_in 553 (by decide +kernel) rfl, q_in 56 (by decide +kernel) rfl, by decide +kernel, by decide +kernel⟩
theorem ov76 : q_okV 76 0 10 := ⟨⟨_, _, rfl⟩, om76, q_in 552 (by decide +kernel) rfl, q_in 16 (by decide +kernel) rfl, by decide +kernel⟩
theorem om77 : q_okM 77 0 := ⟨by decide +kernel, q_in 501 (by decide +kernel) rfl, q_in 56 (by decide +kernel) rfl, by decide +kernel, by decide +kernel⟩
theorem ov77 : q_okV 77 0 10 := ⟨⟨_, _, rfl⟩, om77, q_in 500 (by decide +kernel) rfl, q_in 8 (by decide +kernel) rfl, by decide +kernel⟩
theorem om78 : q_okM 78 1 := ⟨by decide +kernel, q_in 640 (by decide +kernel) rfl, q_in 56 (by decide +kernel) rfl, by decide +kernel, by decide +kernel⟩
theorem ov78 : q_okV 78 1 10 := ⟨⟨_, _, rfl⟩, om78, q_in 639 (by decide +kernel) rfl, q_in 19 (by decide +kernel) rfl, by decide +kernel⟩
theorem om79 : q_okM 79 2 := ⟨by decide +kernel, q_in 610 (by decide +kernel) rfl, q_in 56 (by decide +kernel) rfl, by decide +kernel, by decide +kernel⟩
theorem ov79 : q_okV 79 2 10 := ⟨⟨_, _, rfl⟩, om79, q_in 609 (by decide +kernel) rfl, q_in 18 (by decide +kernel) rfl, by decide +kernel⟩
theorem om80 : q_okM 80 4 := ⟨by decide +kernel, q_in 659 (by decide +kernel) rfl, q_in 56 (by decide +kernel) rfl, by decide +kernel, by decide +kernel⟩
theorem ov80 : q_okV 80 4 10 := ⟨⟨_, _, rfl⟩, om80, q_in 658 (by decide +kernel) rfl, q_in 20 (by decide +kernel) rfl, by decide +kernel⟩
theorem om81 : q_okM 81 0 := ⟨by decide +kernel, q_in 745 (by decide +kernel) rfl, q_in 56 (by decide +kernel) rfl, by decide +kernel, by decide +kernel⟩
theorem ov81 : q_okV 81 0 10 := ⟨⟨_, _, rfl⟩, om81, q_in 744 (by decide +kernel) rfl, q_in 22 (by decide +kernel) rfl, by decide +kernel⟩
theorem om82 : q_okM 82 2 := ⟨by decide +kernel, q_in 681 (by decide +kernel) rfl, q_in 56 (by decide +kernel) rfl, by decide +kernel, by decide +kernel⟩
theorem os82 : q_okS 82 2 := ⟨om82, q_in 680 (by decide +kernel) rfl, by decide +kernel⟩
theorem om83 : q_okM 83 2 := ⟨by decide +kernel, q_in 648 (by decide +kernel) rfl, q_in 56 (by decide +kernel) rfl, by decide +kernel, by decide +kernel⟩
theorem os83 : q_okS 83 2 := ⟨om83, q_in 647 (by decide +kernel) rfl, by decide +kernel⟩
theorem om84 : q_okM 84 3 := ⟨by decide +kernel, q_in 727 (by decide +kernel) rfl, q_in 56 (by decide +kernel) rfl, by decide +kernel, by decide +kernel⟩
theorem os84 : q_okS 84 3 := ⟨om84, q_in 726 (by decide +kernel) rfl, by decide +kernel⟩
theorem om85 : q_okM 85 1 := ⟨by decide +kernel, q_in 435 (by decide +kernel) rfl, q_in 56 (by decide +kernel) rfl, by decide +kernel, by decide +kernel⟩
theorem os85 : q_okS 85 1 := ⟨om85, q_in 434 (by decide +kernel) rfl, by decide +kernel⟩
theorem om86 : q_okM 86 1 := ⟨by decide +kernel, q_in 467 (by decide +kernel) rfl, q_in 56 (by decide +kernel) rfl, by decide +kernel, by decide +kernel⟩
theorem os86 : q_okS 86 1 := ⟨om86, q_in 466 (by decide +kernel) rfl, by decide +kernel⟩
theorem om87 : q_okM 87 2 := ⟨by decide +kernel, q_in 464 (by decide +kernel) rfl, q_in 56 (by decide +kernel) rfl, by decide +kernel, by decide +kernel⟩
theorem os87 : q_okS 87 2 := ⟨om87, q_in 463 (by decide +kernel) rfl, by decide +kernel⟩
theorem om88 : q_okM 88 1 := ⟨by decide +kernel, q_in 431 (by decide +kernel) rfl, q_in 56 (by decide +kernel) rfl, by decide +kernel, by decide +kernel⟩
theorem os88 : q_okS 88 1 := ⟨om88, q_in 430 (by decide +kernel) rfl, by decide +kernel⟩
theorem om89 : q_okM 89 2 := ⟨by decide +kernel, q_in 588 (by decide +kernel) rfl, q_in 56 (by decide +kernel) rfl, by decide +kernel, by decide +kernel⟩
theorem os89 : q_okS 89 2 := ⟨om89, q_in 587 (by decide +kernel) rfl, by decide +kernel⟩
theorem om90 : q_okM 90 2 := ⟨by decide +kernel, q_in 541 (by decide +kernel) rfl, q_in 56 (by decide +kernel) rfl, by decide +kernel, by decide +kernel⟩
theorem os90 : q_okS 90 2 := ⟨om90, q_in 540 (by decide +kernel) rfl, by decide +kernel⟩
theorem om91 : q_okM 91 1 := ⟨by decide +kernel, q_in 883 (by decide +kernel) rfl, q_in 68 (by decide +kernel) rfl, by decide +kernel, by decide +kernel⟩
theorem ov91 : q_okV 91 1 11 := ⟨⟨_, _, rfl⟩, om91, q_in 882 (by decide +kernel) rfl, q_in 24 (by decide +kernel) rfl, by decide +kernel⟩
theorem om92 : q_okM 92 2 := ⟨by decide +kernel, q_in 910 (by decide +kernel) rfl, q_in 68 (by decide +kernel) rfl, by decide +kernel, by decide +kernel⟩
theorem os92 : q_okS 92 2 := ⟨om92, q_in 909 (by decide +kernel) rfl, by decide +kernel⟩
theorem om93 : q_okM 93 3 := ⟨by decide +kernel, q_in 879 (by decide +kernel) rfl, q_in 68 (by decide +kernel) rfl, by decide +kernel, by decide +kernel⟩
theorem os93 : q_okS 93 3 := ⟨om93, q_in 878 (by decide +kernel) rfl, by decide +kernel⟩
theorem om94 : q_okM 94 2 := ⟨by decide +kernel, q_in 1092 (by decide +kernel) rfl, q_in 68 (by decide +kernel) rfl, by decide +kernel, by decide +kernel⟩
theorem os94 : q_okS 94 2 := ⟨om94, q_in 1091 (by decide +kernel) rfl, by decide +kernel⟩
theorem om95 : q_okM 95 0 := ⟨by decide +kernel, q_in 907 (by decide +kernel) rfl, q_in 68 (by decide +kernel) rfl, by decide +kernel, by decide +kernel⟩
theorem ov95 : q_okV 95 0 11 := ⟨⟨_, _, rfl⟩, om95, q_in 906 (by decide +kernel) rfl, q_in 28 (by decide +kernel) rfl, by decide +kernel⟩
theorem om96 : q_okM 96 1 := ⟨by decide +kernel, q_in 903 (by decide +kernel) rfl, q_in 68 (by decide +kernel) rfl, by decide +kernel, by decide +kernel⟩
theorem ov96 : q_okV 96 1 11 := ⟨⟨_, _, rfl⟩, om96, q_in 902 (by decide +kernel) rfl, q_in 27 (by decide +kernel) rfl, by decide +kernel⟩
theorem om97 : q_okM 97 1 := ⟨by decide +kernel, q_in 934 (by decide +kernel) rfl, q_in 68 (by decide +kernel) rfl, by decide +kernel, by decide +kernel⟩
theorem ov97 : q_okV 97 1 11 := ⟨⟨_, _, rfl⟩, om97, q_in 933 (by decide +kernel) rfl, q_in 31 (by decide +kernel) rfl, by decide +kernel⟩
theorem om98 : q_okM 98 1 := ⟨by decide +kernel, q_in 946 (by decide +kernel) rfl, q_in 68 (by decide +kernel) rfl, by decide +kernel, by decide +kernel⟩
theorem ov98 : q_okV 98 1 11 := ⟨⟨_, _, rfl⟩, om98, q_in 945 (by decide +kernel) rfl, q_in 34 (by decide +kernel) rfl, by decide +kernel⟩
theorem om99 : q_okM 99 1 := ⟨by decide +kernel, q_in 1006 (by decide +kernel) rfl, q_in 68 (by decide +kernel) rfl, by decide +kernel, by decide +kernel⟩
theorem ov99 : q_okV 99 1 11 := ⟨⟨_, _, rfl⟩, om99, q_in 1005 (by decide +kernel) rfl, q_in 48 (by decide +kernel) rfl, by decide +kernel⟩
theorem om100 : q_okM 100 1 := ⟨by decide +kernel, q_in 950 (by decide +kernel) rfl, q_in 68 (by decide +kernel) rfl, by decide +kernel, by decide +kernel⟩
theorem ov100 : q_okV 100 1 11 := ⟨⟨_, _, rfl⟩, om100, q_in 949 (by decide +kernel) rfl, q_in 35 (by decide +kernel) rfl, by decide +kernel⟩
theorem om101 : q_okM 101 1 := ⟨by decide +kernel, q_in 876 (by decide +kernel) rfl, q_in 68 (by decide +kernel) rfl, by decide +kernel, by decide +kernel⟩
theorem ov101 : q_okV 101 1 11 := ⟨⟨_, _, rfl⟩, om101, q_in 874 (by decide +kernel) rfl, q_in 875 (by decide +kernel) rfl, by decide +kernel⟩
theorem om102 : q_okM 102 2 := ⟨by decide +kernel, q_in 895 (by decide +kernel) rfl, q_in 68 (by decide +kernel) rfl, by decide +kernel, by decide +kernel⟩
theorem ov102 : q_okV 102 2 11 := ⟨⟨_, _, rfl⟩, om102, q_in 894 (by decide +kernel) rfl, q_in 26 (by decide +kernel) rfl, by decide +kernel⟩
theorem om103 : q_okM 103 0 := ⟨by decide +kernel, q_in 891 (by decide +kernel) rfl, q_in 68 (by decide +kernel) rfl, by decide +kernel, by decide +kernel⟩
theorem ov103 : q_okV 103 0 11 := ⟨⟨_, _, rfl⟩, om103, q_in 890 (by decide +kernel) rfl, q_in 25 (by decide +kernel) rfl, by decide +kernel⟩
theorem om104 : q_okM 104 0 := ⟨by decide +kernel, q_in 887 (by decide +kernel) rfl, q_in 68 (by decide +kernel) rfl, by decide +kernel, by decide +kernel⟩
theorem ov104 : q_okV 104 0 11 := ⟨⟨_, _, rfl⟩, om104, q_in 885 (by decide +kernel) rfl, q_in 886 (by decide +kernel) rfl, by decide +kernel⟩
theorem om105 : q_okM 105 2 := ⟨by decide +kernel, q_in 899 (by decide +kernel) rfl, q_in 68 (by decide +kernel) rfl, by decide +kernel, by decide +kernel⟩
theorem ov105 : q_okV 105 2 11 := ⟨⟨_, _, rfl⟩, om105, q_in 897 (by decide +kernel) rfl, q_in 898 (by decide +kernel) rfl, by decide +kernel⟩
theorem om106 : q_okM 106 1 := ⟨by decide +kernel, q_in 914 (by decide +kernel) rfl, q_in 68 (by decide +kernel) rfl, by decide +kernel, by decide +kernel⟩
theorem ov106 : q_okV 106 1 11 := ⟨⟨_, _, rfl⟩, om106, q_in 912 (by decide +kernel) rfl, q_in 913 (by decide +kernel) rfl, by decide +kernel⟩
theorem om107 : q_okM 107 0 := ⟨by decide +kernel, q_in 926 (by decide +kernel) rfl, q_in 68 (by decide +kernel) rfl, by decide +kernel, by decide +kernel⟩
theorem ov107 : q_okV 107 0 11 := ⟨⟨_, _, rfl⟩, om107, q_in 925 (by decide +kernel) rfl, q_in 30 (by decide +kernel) rfl, by decide +kernel⟩
theorem om108 : q_okM 108 1 := ⟨by decide +kernel, q_in 922 (by decide +kernel) rfl, q_in 68 (by decide +kernel) rfl, by decide +kernel, by decide +kernel⟩
theorem ov108 : q_okV 108 1 11 := ⟨⟨_, _, rfl⟩, om108, q_in 921 (by decide +kernel) rfl, q_in 29 (by decide +kernel) rfl, by decide +kernel⟩
theorem om109 : q_okM 109 1 := ⟨by decide +kernel, q_in 918 (by decide +kernel) rfl, q_in 68 (by decide +kernel) rfl, by decide +kernel, by decide +kernel⟩
theorem ov109 : q_okV 109 1 11 := ⟨⟨_, _, rfl⟩, om109, q_in 916 (by decide +kernel) rfl, q_in 917 (by decide +kernel) rfl, by decide +kernel⟩
theorem om110 : q_okM 110 2 := ⟨by decide +kernel, q_in 942 (by decide +kernel) rfl, q_in 68 (by decide +kernel) rfl, by decide +kernel, by decide +kernel⟩
theorem ov110 : q_okV 110 2 11 := ⟨⟨_, _, rfl⟩, om110, q_in 941 (by decide +kernel) rfl, q_in 33 (by decide +kernel) rfl, by decide +kernel⟩
theorem om111 : q_okM 111 2 := ⟨by decide +kernel, q_in 958 (by decide +kernel) rfl, q_in 68 (by decide +kernel) rfl, by decide +kernel, by decide +kernel⟩
theorem ov111 : q_okV 111 2 11 := ⟨⟨_, _, rfl⟩, om111, q_in 957 (by decide +kernel) rfl, q_in 37 (by decide +kernel) rfl, by decide +kernel⟩
theorem om112 : q_okM 112 5 := ⟨by decide +kernel, q_in 990 (by decide +kernel) rfl, q_in 68 (by decide +kernel) rfl, by decide +kernel, by decide +kernel⟩
theorem ov112 : q_okV 112 5 11 := ⟨⟨_, _, rfl⟩, om112, q_in 989 (by decide +kernel) rfl, q_in 44 (by decide +kernel) rfl, by decide +kernel⟩
theorem om113 : q_okM 113 0 := ⟨by decide +kernel, q_in 986 (by decide +kernel) rfl, q_in 68 (by decide +kernel) rfl, by decide +kernel, by decide +kernel⟩
theorem ov113 : q_okV 113 0 11 := ⟨⟨_, _, rfl⟩, om113, q_in 985 (by decide +kernel) rfl, q_in 43 (by decide +kernel) rfl, by decide +kernel⟩
theorem om114 : q_okM 114 2 := ⟨by decide +kernel, q_in 954 (by decide +kernel) rfl, q_in 68 (by decide +kernel) rfl, by decide +kernel, by decide +kernel⟩
theorem ov114 : q_okV 114 2 11 := ⟨⟨_, _, rfl⟩, om114, q_in 953 (by decide +kernel) rfl, q_in 36 (by decide +kernel) rfl, by decide +kernel⟩
theorem om115 : q_okM 115 2 := ⟨by decide +kernel, q_in 938 (by decide +kernel) rfl, q_in 68 (by decide +kernel) rfl, by decide +kernel, by decide +kernel⟩
theorem ov115 : q_okV 115 2 11 := ⟨⟨_, _, rfl⟩, om115, q_in 937 (by decide +kernel) rfl, q_in 32 (by decide +kernel) rfl, by decide +kernel⟩
theorem om116 : q_okM 116 2 := ⟨by decide +kernel, q_in 930 (by decide +kernel) rfl, q_in 68 (by decide +kernel) rfl, by decide +kernel, by decide +kernel⟩
theorem ov116 : q_okV 116 2 11 := ⟨⟨_, _, rfl⟩, om116, q_in 928 (by decide +kernel) rfl, q_in 929 (by decide +kernel) rfl, by decide +kernel⟩
theorem om117 : q_okM 117 1 := ⟨by decide +kernel, q_in 1002 (by decide +kernel) rfl, q_in 68 (by decide +kernel) rfl, by decide +kernel, by decide +kernel⟩
theorem ov117 : q_okV 117 1 11 := ⟨⟨_, _, rfl⟩, om117, q_in 1001 (by decide +kernel) rfl, q_in 47 (by decide +kernel) rfl, by decide +kernel⟩
theorem om118 : q_okM 118 1 := ⟨by decide +kernel, q_in 998 (by decide +kernel) rfl, q_in 68 (by decide +kernel) rfl, by decide +kernel, by decide +kernel⟩
theorem ov118 : q_okV 118 1 11 := ⟨⟨_, _, rfl⟩, om118, q_in 997 (by decide +kernel) rfl, q_in 46 (by decide +kernel) rfl, by decide +kernel⟩
theorem om119 : q_okM 119 3 := ⟨by decide +kernel, q_in 994 (by decide +kernel) rfl, q_in 68 (by decide +kernel) rfl, by decide +kernel, by decide +kernel⟩
theorem ov119 : q_okV 119 3 11 := ⟨⟨_, _, rfl⟩, om119, q_in 993 (by decide +kernel) rfl, q_in 45 (by decide +kernel) rfl, by decide +kernel⟩
theorem om120 : q_okM 120 1 := ⟨by decide +kernel, q_in 982 (by decide +kernel) rfl, q_in 68 (by decide +kernel) rfl, by decide +kernel, by decide +kernel⟩
theorem ov120 : q_okV 120 1 11 := ⟨⟨_, _, rfl⟩, om120, q_in 981 (by decide +kernel) rfl, q_in 42 (by decide +kernel) rfl, by decide +kernel⟩
theorem om121 : q_okM 121 2 := ⟨by decide +kernel, q_in 978 (by decide +kernel) rfl, q_in 68 (by decide +kernel) rfl, by decide +kernel, by decide +kernel⟩
theorem ov121 : q_okV 121 2 11 := ⟨⟨_, _, rfl⟩, om121, q_in 977 (by decide +kernel) rfl, q_in 41 (by decide +kernel) rfl, by decide +kernel⟩
theorem om122 : q_okM 122 1 := ⟨by decide +kernel, q_in 974 (by decide +kernel) rfl, q_in 68 (by decide +kernel) rfl, by decide +kernel, by decide +kernel⟩
theorem ov122 : q_okV 122 1 11 := ⟨⟨_, _, rfl⟩, om122, q_in 973 (by decide +kernel) rfl, q_in 40 (by decide +kernel) rfl, by decide +kernel⟩
theorem om123 : q_okM 123 0 := ⟨by decide +kernel, q_in 1023 (by decide +kernel) rfl, q_in 68 (by decide +kernel) rfl, by decide +kernel, by decide +kernel⟩
theorem ov123 : q_okV 123 0 11 := ⟨⟨_, _, rfl⟩, om123, q_in 1022 (by decide +kernel) rfl, q_in 50 (by decide +kernel) rfl, by decide +kernel⟩
theorem om124 : q_okM 124 0 := ⟨by decide +kernel, q_in 966 (by decide +kernel) rfl, q_in 68 (by decide +kernel) rfl, by decide +kernel, by decide +kernel⟩
theorem ov124 : q_okV 124 0 11 := ⟨⟨_, _, rfl⟩, om124, q_in 965 (by decide +kernel) rfl, q_in 38 (by decide +kernel) rfl, by decide +kernel⟩
theorem om125 : q_okM 125 0 := ⟨by decide +kernel, q_in 970 (by decide +kernel) rfl, q_in 68 (by decide +kernel) rfl, by decide +kernel, by decide +kernel⟩
theorem ov125 : q_okV 125 0 11 := ⟨⟨_, _, rfl⟩, om125, q_in 969 (by decide +kernel) rfl, q_in 39 (by decide +kernel) rfl, by decide +kernel⟩
theorem om126 : q_okM 126 0 := ⟨by decide +kernel, q_in 962 (by decide +kernel) rfl, q_in 68 (by decide +kernel) rfl, by decide +kernel, by decide +kernel⟩
theorem ov126 : q_okV 126 0 11 := ⟨⟨_, _, rfl⟩, om126, q_in 960 (by decide +kernel) rfl, q_in 961 (by decide +kernel) rfl, by decide +kernel⟩
theorem om127 : q_okM 127 2 := ⟨by decide +kernel, q_in 1014 (by decide +kernel) rfl, q_in 68 (by decide +kernel) rfl, by decide +kernel, by decide +kernel⟩
theorem ov127 : q_okV 127 2 11 := ⟨⟨_, _, rfl⟩, om127, q_in 1013 (by decide +kernel) rfl, q_in 49 (by decide +kernel) rfl, by decide +kernel⟩
theorem om128 : q_okM 128 0 := ⟨by decide +kernel, q_in 1010 (by decide +kernel) rfl, q_in 68 (by decide +kernel) rfl, by decide +kernel, by decide +kernel⟩
theorem ov128 : q_okV 128 0 11 := ⟨⟨_, _, rfl⟩, om128, q_in 1008 (by decide +kernel) rfl, q_in 1009 (by decide +kernel) rfl, by decide +kernel⟩
theorem om129 : q_okM 129 0 := ⟨by decide +kernel, q_in 1019 (by decide +kernel) rfl, q_in 68 (by decide +kernel) rfl, by decide +kernel, by decide +kernel⟩
theorem ov129 : q_okV 129 0 11 := ⟨⟨_, _, rfl⟩, om129, q_in 1017 (by decide +kernel) rfl, q_in 1018 (by decide +kernel) rfl, by decide +kernel⟩
theorem om130 : q_okM 130 1 := ⟨by decide +kernel, q_in 1027 (by decide +kernel) rfl, q_in 68 (by decide +kernel) rfl, by decide +kernel, by decide +kernel⟩
theorem ov130 : q_okV 130 1 11 := ⟨⟨_, _, rfl⟩, om130, q_in 1025 (by decide +kernel) rfl, q_in 1026 (by decide +kernel) rfl, by decide +kernel⟩
theorem om131 : q_okM 131 0 := ⟨by decide +kernel, q_in 1031 (by decide +kernel) rfl, q_in 68 (by decide +kernel) rfl, by decide +kernel, by decide +kernel⟩
theorem ov131 : q_okV 131 0 11 := ⟨⟨_, _, rfl⟩, om131, q_in 1029 (by decide +kernel) rfl, q_in 1030 (by decide +kernel) rfl, by decide +kernel⟩
theorem om132 : q_okM 132 2 := ⟨by decide +kernel, q_in 1038 (by decide +kernel) rfl, q_in 68 (by decide +kernel) rfl, by decide +kernel, by decide +kernel⟩
theorem os132 : q_okS 132 2 := ⟨om132, q_in 1037 (by decide +kernel) rfl, by decide +kernel⟩
theorem om133 : q_okM 133 2 := ⟨by decide +kernel, q_in 1035 (by decide +kernel) rfl, q_in 68 (by decide +kernel) rfl, by decide +kernel, by decide +kernel⟩
theorem ov133 : q_okV 133 2 11 := ⟨⟨_, _, rfl⟩, om133, q_in 1033 (by decide +kernel) rfl, q_in 1034 (by decide +kernel) rfl, by decide +kernel⟩
theorem om134 : q_okM 134 3 := ⟨by decide +kernel, q_in 1046 (by decide +kernel) rfl, q_in 68 (by decide +kernel) rfl, by decide +kernel, by decide +kernel⟩
theorem ov134 : q_okV 134 3 11 := ⟨⟨_, _, rfl⟩, om134, q_in 1045 (by decide +kernel) rfl, q_in 51 (by decide +kernel) rfl, by decide +kernel⟩
theorem om135 : q_okM 135 3 := ⟨by decide +kernel, q_in 1042 (by decide +kernel) rfl, q_in 68 (by decide +kernel) rfl, by decide +kernel, by decide +kernel⟩
theorem ov135 : q_okV 135 3 11 := ⟨⟨_, _, rfl⟩, om135, q_in 1040 (by decide +kernel) rfl, q_in 1041 (by decide +kernel) rfl, by decide +kernel⟩
theorem om136 : q_okM 136 3 := ⟨by decide +kernel, q_in 1050 (by decide +kernel) rfl, q_in 68 (by decide +kernel) rfl, by decide +kernel, by decide +kernel⟩
theorem ov136 : q_okV 136 3 11 := ⟨⟨_, _, rfl⟩, om136, q_in 1048 (by decide +kernel) rfl, q_in 1049 (by decide +kernel) rfl, by decide +kernel⟩
theorem om137 : q_okM 137 2 := ⟨by decide +kernel, q_in 1065 (by decide +kernel) rfl, q_in 68 (by decide +kernel) rfl, by decide +kernel, by decide +kernel⟩
theorem ov137 : q_okV 137 2 11 := ⟨⟨_, _, rfl⟩, om137, q_in 1064 (by decide +kernel) rfl, q_in 53 (by decide +kernel) rfl, by decide +kernel⟩
theorem om138 : q_okM 138 0 := ⟨by decide +kernel, q_in 1061 (by decide +kernel) rfl, q_in 68 (by decide +kernel) rfl, by decide +kernel, by decide +kernel⟩
theorem ov138 : q_okV 138 0 11 := ⟨⟨_, _, rfl⟩, om138, q_in 1060 (by decide +kernel) rfl, q_in 52 (by decide +kernel) rfl, by decide +kernel⟩
theorem om139 : q_okM 139 0 := ⟨by decide +kernel, q_in 1057 (by decide +kernel) rfl, q_in 68 (by decide +kernel) rfl, by decide +kernel, by decide +kernel⟩
theorem ov139 : q_okV 139 0 11 := ⟨⟨_, _, rfl⟩, om139, q_in 1055 (by decide +kernel) rfl, q_in 1056 (by decide +kernel) rfl, by decide +kernel⟩
theorem om140 : q_okM 140 0 := ⟨by decide +kernel, q_in 1069 (by decide +kernel) rfl, q_in 68 (by decide +kernel) rfl, by decide +kernel, by decide +kernel⟩
theorem ov140 : q_okV 140 0 11 := ⟨⟨_, _, rfl⟩, om140, q_in 1067 (by decide +kernel) rfl, q_in 1068 (by decide +kernel) rfl, by decide +kernel⟩
theorem om141 : q_okM 141 1 := ⟨by decide +kernel, q_in 1073 (by decide +kernel) rfl, q_in 68 (by decide +kernel) rfl, by decide +kernel, by decide +kernel⟩
theorem ov141 : q_okV 141 1 11 := ⟨⟨_, _, rfl⟩, om141, q_in 1071 (by decide +kernel) rfl, q_in 1072 (by decide +kernel) rfl, by decide +kernel⟩
theorem om142 : q_okM 142 0 := ⟨by decide +kernel, q_in 1077 (by decide +kernel) rfl, q_in 68 (by decide +kernel) rfl, by decide +kernel, by decide +kernel⟩
theorem ov142 : q_okV 142 0 11 := ⟨⟨_, _, rfl⟩, om142, q_in 1075 (by decide +kernel) rfl, q_in 1076 (by decide +kernel) rfl, by decide +kernel⟩
theorem om143 : q_okM 143 1 := ⟨by decide +kernel, q_in 1081 (by decide +kernel) rfl, q_in 68 (by decide +kernel) rfl, by decide +kernel, by decide +kernel⟩
theorem ov143 : q_okV 143 1 11 := ⟨⟨_, _, rfl⟩, om143, q_in 1079 (by decide +kernel) rfl, q_in 1080 (by decide +kernel) rfl, by decide +kernel⟩
theorem om144 : q_okM 144 1 := ⟨by decide +kernel, q_in 1085 (by decide +kernel) rfl, q_in 68 (by decide +kernel) rfl, by decide +kernel, by decide +kernel⟩
theorem ov144 : q_okV 144 1 11 := ⟨⟨_, _, rfl⟩, om144, q_in 1083 (by decide +kernel) rfl, q_in 1084 (by decide +kernel) rfl, by decide +kernel⟩
theorem om145 : q_okM 145 0 := ⟨by decide +kernel, q_in 1089 (by decide +kernel) rfl, q_in 68 (by decide +kernel) rfl, by decide +kernel, by decide +kernel⟩
theorem ov145 : q_okV 145 0 11 := ⟨⟨_, _, rfl⟩, om145, q_in 1087 (by decide +kernel) rfl, q_in 1088 (by decide +kernel) rfl, by decide +kernel⟩
theorem om146 : q_okM 146 3 := ⟨by decide +kernel, q_in 1099 (by decide +kernel) rfl, q_in 68 (by decide +kernel) rfl, by decide +kernel, by decide +kernel⟩
theorem os146 : q_okS 146 3 := ⟨om146, q_in 1098 (by decide +kernel) rfl, by decide +kernel⟩
theorem om147 : q_okM 147 3 := ⟨by decide +kernel, q_in 1096 (by decide +kernel) rfl, q_in 68 (by decide +kernel) rfl, by decide +kernel, by decide +kernel⟩
theorem ov147 : q_okV 147 3 11 := ⟨⟨_, _, rfl⟩, om147, q_in 1094 (by decide +kernel) rfl, q_in 1095 (by decide +kernel) rfl, by decide +kernel⟩
theorem om148 : q_okM 148 2 := ⟨by decide +kernel, q_in 1103 (by decide +kernel) rfl, q_in 68 (by decide +kernel) rfl, by decide +kernel, by decide +kernel⟩
theorem ov148 : q_okV 148 2 11 := ⟨⟨_, _, rfl⟩, om148, q_in 1101 (by decide +kernel) rfl, q_in 1102 (by decide +kernel) rfl, by decide +kernel⟩
theorem om149 : q_okM 149 1 := ⟨by decide +kernel, q_in 1111 (by decide +kernel) rfl, q_in 68 (by decide +kernel) rfl, by decide +kernel, by decide +kernel⟩
theorem ov149 : q_okV 149 1 11 := ⟨⟨_, _, rfl⟩, om149, q_in 1110 (by decide +kernel) rfl, q_in 54 (by decide +kernel) rfl, by decide +kernel⟩
theorem om150 : q_okM 150 0 := ⟨by decide +kernel, q_in 1107 (by decide +kernel) rfl, q_in 68 (by decide +kernel) rfl, by decide +kernel, by decide +kernel⟩
theorem ov150 : q_okV 150 0 11 := ⟨⟨_, _, rfl⟩, om150, q_in 1105 (by decide +kernel) rfl, q_in 1106 (by decide +kernel) rfl, by decide +kernel⟩
theorem om151 : q_okM 151 0 := ⟨by decide +kernel, q_in 1115 (by decide +kernel) rfl, q_in 68 (by decide +kernel) rfl, by decide +kernel, by decide +kernel⟩
theorem ov151 : q_okV 151 0 11 := ⟨⟨_, _, rfl⟩, om151, q_in 1113 (by decide +kernel) rfl, q_in 1114 (by decide +kernel) rfl, by decide +kernel⟩
theorem om152 : q_okM 152 0 := ⟨by decide +kernel, q_in 1119 (by decide +kernel) rfl, q_in 68 (by decide +kernel) rfl, by decide +kernel, by decide +kernel⟩
theorem ov152 : q_okV 152 0 11 := ⟨⟨_, _, rfl⟩, om152, q_in 1117 (by decide +kernel) rfl, q_in 1118 (by decide +kernel) rfl, by decide +kernel⟩
theorem om153 : q_okM 153 0 := ⟨by decide +kernel, q_in 1123 (by decide +kernel) rfl, q_in 68 (by decide +kernel) rfl, by decide +kernel, by decide +kernel⟩
theorem ov153 : q_okV 153 0 11 := ⟨⟨_, _, rfl⟩, om153, q_in 1121 (by decide +kernel) rfl, q_in 1122 (by decide +kernel) rfl, by decide +kernel⟩
theorem om154 : q_okM 154 1 := ⟨by decide +kernel, q_in 1127 (by decide +kernel) rfl, q_in 68 (by decide +kernel) rfl, by decide +kernel, by decide +kernel⟩
theorem ov154 : q_okV 154 1 11 := ⟨⟨_, _, rfl⟩, om154, q_in 1125 (by decide +kernel) rfl, q_in 1126 (by decide +kernel) rfl, by decide +kernel⟩
theorem om155 : q_okM 155 1 := ⟨by decide +kernel, q_in 613 (by decide +kernel) rfl, q_in 72 (by decide +kernel) rfl, by decide +kernel, by decide +kernel⟩
theorem os155 : q_okS 155 1 := ⟨om155, q_in 612 (by decide +kernel) rfl, by decide +kernel⟩
theorem om158 : q_okM 158 2 := ⟨by decide +kernel, q_in 394 (by decide +kernel) rfl, q_in 69 (by decide +kernel) rfl, by decide +kernel, by decide +kernel⟩
theorem os158 : q_okS 158 2 := ⟨om158, q_in 393 (by decide +kernel) rfl, by decide +kernel⟩
theorem ou1_28_0 : q_okU 1 28 0 3 0 := ⟨"NeverCross$Any", "NeverCross$Law", _, _, ⟨"NeverCross$Law", "wellsFor", "(III)I"⟩, rfl, om0, by decide +kernel, by decide +kernel, (by
  intro w hw
  simp only [List.mem_cons, List.not_mem_nil, or_false] at hw
  rcases hw with rfl | rfl | rfl | rfl | rfl
  · exact q_in 664 (by decide +kernel) rfl
  · exact q_in 569 (by decide +kernel) rfl
  · exact q_in 570 (by decide +kernel) rfl
  · exact q_in 571 (by decide +kernel) rfl
  · exact q_in 63 (by decide +kernel) rfl), fun s args _ h => va_Decl.abs (h.2.2.2.2.2.1)⟩
theorem ou1_28_3 : q_okU 1 28 14 3 3 := ⟨"NeverCross$Next", "NeverCross$Law", _, _, ⟨"NeverCross$Law", "wellsFor", "(III)I"⟩, rfl, om14, by decide +kernel, by decide +kernel, (by
  intro w hw
  simp only [List.mem_cons, List.not_mem_nil, or_false] at hw
  rcases hw with rfl | rfl | rfl | rfl | rfl
  · exact q_in 664 (by decide +kernel) rfl
  · exact q_in 569 (by decide +kernel) rfl
  · exact q_in 573 (by decide +kernel) rfl
  · exact q_in 574 (by decide +kernel) rfl
  · exact q_in 60 (by decide +kernel) rfl), fun s args _ h => va_Decl.abs (h.2.2.2.2.2.1)⟩
theorem ou1_28_4 : q_okU 1 28 14 3 4 := ⟨"NeverCross$Own", "NeverCross$Law", _, _, ⟨"NeverCross$Law", "wellsFor", "(III)I"⟩, rfl, om14, by decide +kernel, by decide +kernel, (by
  intro w hw
  simp only [List.mem_cons, List.not_mem_nil, or_false] at hw
  rcases hw with rfl | rfl | rfl | rfl | rfl
  · exact q_in 664 (by decide +kernel) rfl
  · exact q_in 569 (by decide +kernel) rfl
  · exact q_in 594 (by decide +kernel) rfl
  · exact q_in 574 (by decide +kernel) rfl
  · exact q_in 60 (by decide +kernel) rfl), fun s args _ h => va_Decl.abs (h.2.2.2.2.2.1)⟩
theorem ou1_28_7 : q_okU 1 28 14 3 7 := ⟨"NeverCross$Told", "NeverCross$Law", _, _, ⟨"NeverCross$Law", "wellsFor", "(III)I"⟩, rfl, om14, by decide +kernel, by decide +kernel, (by
  intro w hw
  simp only [List.mem_cons, List.not_mem_nil, or_false] at hw
  rcases hw with rfl | rfl | rfl | rfl | rfl
  · exact q_in 664 (by decide +kernel) rfl
  · exact q_in 569 (by decide +kernel) rfl
  · exact q_in 595 (by decide +kernel) rfl
  · exact q_in 574 (by decide +kernel) rfl
  · exact q_in 60 (by decide +kernel) rfl), fun s args _ h => va_Decl.abs (h.2.2.2.2.2.1)⟩
theorem ou1_28_8 : q_okU 1 28 14 3 8 := ⟨"NeverCross$Turned", "NeverCross$Law", _, _, ⟨"NeverCross$Law", "wellsFor", "(III)I"⟩, rfl, om14, by decide +kernel, by decide +kernel, (by
  intro w hw
  simp only [List.mem_cons, List.not_mem_nil, or_false] at hw
  rcases hw with rfl | rfl | rfl | rfl | rfl
  · exact q_in 664 (by decide +kernel) rfl
  · exact q_in 569 (by decide +kernel) rfl
  · exact q_in 596 (by decide +kernel) rfl
  · exact q_in 574 (by decide +kernel) rfl
  · exact q_in 60 (by decide +kernel) rfl), fun s args _ h => va_Decl.abs (h.2.2.2.2.2.1)⟩
theorem lm1_43 : Cond.methodLink (q_mY 1).cls 43 (q_mY 2) ∈ goodTbl := q_in 665 (by decide +kernel) rfl
theorem lm2_43 : Cond.methodLink (q_mY 2).cls 43 (q_mY 2) ∈ goodTbl := q_in 665 (by decide +kernel) rfl
theorem lm3_34 : Cond.methodLink (q_mY 3).cls 34 (q_mY 15) ∈ goodTbl := q_in 422 (by decide +kernel) rfl
theorem lc3_47 : Cond.methodLink (q_mY 3).cls 47 arraycopyName ∈ goodTbl := q_in 773 (by decide +kernel) rfl
theorem lm4_34 : Cond.methodLink (q_mY 4).cls 34 (q_mY 15) ∈ goodTbl := q_in 422 (by decide +kernel) rfl
theorem lm4_56 : ∀ U, q_Nw U → va_Nw (.methodLinkNest (q_mY 4).cls 56 (q_mY 88) "NeverCross") U := fun U h => h.2.1
theorem lm4_60 : Cond.methodLink (q_mY 4).cls 60 (q_mY 5) ∈ goodTbl := q_in 438 (by decide +kernel) rfl
theorem lm7_64 : Cond.methodLink (q_mY 7).cls 64 (q_mY 25) ∈ goodTbl := q_in 740 (by decide +kernel) rfl
theorem lm7_67 : Cond.methodLink (q_mY 7).cls 67 (q_mY 27) ∈ goodTbl := q_in 741 (by decide +kernel) rfl
theorem lm8_64 : Cond.methodLink (q_mY 8).cls 64 (q_mY 25) ∈ goodTbl := q_in 740 (by decide +kernel) rfl
theorem lm8_67 : Cond.methodLink (q_mY 8).cls 67 (q_mY 27) ∈ goodTbl := q_in 741 (by decide +kernel) rfl
theorem lm9_64 : Cond.methodLink (q_mY 9).cls 64 (q_mY 25) ∈ goodTbl := q_in 740 (by decide +kernel) rfl
theorem lm9_67 : Cond.methodLink (q_mY 9).cls 67 (q_mY 27) ∈ goodTbl := q_in 741 (by decide +kernel) rfl
theorem lm10_71 : Cond.methodLink (q_mY 10).cls 71 (q_mY 9) ∈ goodTbl := q_in 755 (by decide +kernel) rfl
theorem lm10_77 : ∀ U, q_Nw U → va_Nw (.methodLinkNest (q_mY 10).cls 77 (q_mY 90) "NeverCross") U := fun U h => h.2.2.2.2.2.2.2.2.2
theorem ou11_7_0 : q_okU 11 7 0 3 0 := ⟨"NeverCross$Any", "NeverCross$Law", _, _, ⟨"NeverCross$Law", "wellsFor", "(III)I"⟩, rfl, om0, by decide +kernel, by decide +kernel, (by
  intro w hw
  simp only [List.mem_cons, List.not_mem_nil, or_false] at hw
  rcases hw with rfl | rfl | rfl | rfl | rfl
  · exact q_in 567 (by decide +kernel) rfl
  · exact q_in 569 (by decide +kernel) rfl
  · exact q_in 570 (by decide +kernel) rfl
  · exact q_in 571 (by decide +kernel) rfl
  · exact q_in 63 (by decide +kernel) rfl), fun s args _ h => va_Decl.abs (h.2.2.2.2.2.1)⟩
theorem ou11_7_3 : q_okU 11 7 14 3 3 := ⟨"NeverCross$Next", "NeverCross$Law", _, _, ⟨"NeverCross$Law", "wellsFor", "(III)I"⟩, rfl, om14, by decide +kernel, by decide +kernel, (by
  intro w hw
  simp only [List.mem_cons, List.not_mem_nil, or_false] at hw
  rcases hw with rfl | rfl | rfl | rfl | rfl
  · exact q_in 567 (by decide +kernel) rfl
  · exact q_in 569 (by decide +kernel) rfl
  · exact q_in 573 (by decide +kernel) rfl
  · exact q_in 574 (by decide +kernel) rfl
  · exact q_in 60 (by decide +kernel) rfl), fun s args _ h => va_Decl.abs (h.2.2.2.2.2.1)⟩
theorem ou11_7_4 : q_okU 11 7 14 3 4 := ⟨"NeverCross$Own", "NeverCross$Law", _, _, ⟨"NeverCross$Law", "wellsFor", "(III)I"⟩, rfl, om14, by decide +kernel, by decide +kernel, (by
  intro w hw
  simp only [List.mem_cons, List.not_mem_nil, or_false] at hw
  rcases hw with rfl | rfl | rfl | rfl | rfl
  · exact q_in 567 (by decide +kernel) rfl
  · exact q_in 569 (by decide +kernel) rfl
  · exact q_in 594 (by decide +kernel) rfl
  · exact q_in 574 (by decide +kernel) rfl
  · exact q_in 60 (by decide +kernel) rfl), fun s args _ h => va_Decl.abs (h.2.2.2.2.2.1)⟩
theorem ou11_7_7 : q_okU 11 7 14 3 7 := ⟨"NeverCross$Told", "NeverCross$Law", _, _, ⟨"NeverCross$Law", "wellsFor", "(III)I"⟩, rfl, om14, by decide +kernel, by decide +kernel, (by
  intro w hw
  simp only [List.mem_cons, List.not_mem_nil, or_false] at hw
  rcases hw with rfl | rfl | rfl | rfl | rfl
  · exact q_in 567 (by decide +kernel) rfl
  · exact q_in 569 (by decide +kernel) rfl
  · exact q_in 595 (by decide +kernel) rfl
  · exact q_in 574 (by decide +kernel) rfl
  · exact q_in 60 (by decide +kernel) rfl), fun s args _ h => va_Decl.abs (h.2.2.2.2.2.1)⟩
theorem ou11_7_8 : q_okU 11 7 14 3 8 := ⟨"NeverCross$Turned", "NeverCross$Law", _, _, ⟨"NeverCross$Law", "wellsFor", "(III)I"⟩, rfl, om14, by decide +kernel, by decide +kernel, (by
  intro w hw
  simp only [List.mem_cons, List.not_mem_nil, or_false] at hw
  rcases hw with rfl | rfl | rfl | rfl | rfl
  · exact q_in 567 (by decide +kernel) rfl
  · exact q_in 569 (by decide +kernel) rfl
  · exact q_in 596 (by decide +kernel) rfl
  · exact q_in 574 (by decide +kernel) rfl
  · exact q_in 60 (by decide +kernel) rfl), fun s args _ h => va_Decl.abs (h.2.2.2.2.2.1)⟩
theorem lm11_13 : ∀ U, q_Nw U → va_Nw (.methodLinkNest (q_mY 11).cls 13 (q_mY 89) "NeverCross") U := fun U h => h.2.2.2.2.2.2.2.1
theorem lm14_7 : Cond.methodLink (q_mY 14).cls 7 (q_mY 13) ∈ goodTbl := q_in 576 (by decide +kernel) rfl
theorem ou14_7_3 : q_okU 14 7 12 3 3 := ⟨"NeverCross$Next", "NeverCross$Own", _, _, ⟨"NeverCross$Own", "wellOf", "(III)I"⟩, rfl, om12, by decide +kernel, by decide +kernel, (by
  intro w hw
  simp only [List.mem_cons, List.not_mem_nil, or_false] at hw
  rcases hw with rfl | rfl | rfl | rfl | rfl
  · exact q_in 576 (by decide +kernel) rfl
  · exact q_in 579 (by decide +kernel) rfl
  · exact q_in 580 (by decide +kernel) rfl
  · exact q_in 581 (by decide +kernel) rfl
  · exact q_in 62 (by decide +kernel) rfl), fun s args hts _ => va_Decl.of (hts _ (q_in 577 (by decide +kernel) rfl)) (hts _ (om13.2.1))⟩
theorem ou14_7_7 : q_okU 14 7 39 3 7 := ⟨"NeverCross$Told", "NeverCross$Own", _, _, ⟨"NeverCross$Own", "wellOf", "(III)I"⟩, rfl, om39, by decide +kernel, by decide +kernel, (by
  intro w hw
  simp only [List.mem_cons, List.not_mem_nil, or_false] at hw
  rcases hw with rfl | rfl | rfl | rfl | rfl
  · exact q_in 576 (by decide +kernel) rfl
  · exact q_in 579 (by decide +kernel) rfl
  · exact q_in 583 (by decide +kernel) rfl
  · exact q_in 584 (by decide +kernel) rfl
  · exact q_in 64 (by decide +kernel) rfl), fun s args hts _ => va_Decl.of (hts _ (q_in 577 (by decide +kernel) rfl)) (hts _ (om13.2.1))⟩
theorem ou14_7_8 : q_okU 14 7 40 3 8 := ⟨"NeverCross$Turned", "NeverCross$Own", _, _, ⟨"NeverCross$Own", "wellOf", "(III)I"⟩, rfl, om40, by decide +kernel, by decide +kernel, (by
  intro w hw
  simp only [List.mem_cons, List.not_mem_nil, or_false] at hw
  rcases hw with rfl | rfl | rfl | rfl | rfl
  · exact q_in 576 (by decide +kernel) rfl
  · exact q_in 579 (by decide +kernel) rfl
  · exact q_in 590 (by decide +kernel) rfl
  · exact q_in 591 (by decide +kernel) rfl
  · exact q_in 61 (by decide +kernel) rfl), fun s args hts _ => va_Decl.of (hts _ (q_in 577 (by decide +kernel) rfl)) (hts _ (om13.2.1))⟩
theorem lc15_46 : Cond.methodLink (q_mY 15).cls 46 arraycopyName ∈ goodTbl := q_in 426 (by decide +kernel) rfl
theorem lm16_52 : Cond.methodLink (q_mY 16).cls 52 (q_mY 17) ∈ goodTbl := q_in 388 (by decide +kernel) rfl
theorem lx16_55 : Cond.methodLink (q_mY 16).cls 55 Lib.Math.min.name ∈ goodTbl := q_in 395 (by decide +kernel) rfl
theorem lm16_61 : Cond.methodLink (q_mY 16).cls 61 (q_mY 18) ∈ goodTbl := q_in 398 (by decide +kernel) rfl
theorem lm16_65 : Cond.methodLink (q_mY 16).cls 65 (q_mY 19) ∈ goodTbl := q_in 402 (by decide +kernel) rfl
theorem lm16_72 : Cond.methodLink (q_mY 16).cls 72 (q_mY 22) ∈ goodTbl := q_in 414 (by decide +kernel) rfl
theorem lm17_75 : Cond.methodLink (q_mY 17).cls 75 (q_mY 158) ∈ goodTbl := q_in 392 (by decide +kernel) rfl
theorem lm19_81 : Cond.methodLink (q_mY 19).cls 81 (q_mY 21) ∈ goodTbl := q_in 406 (by decide +kernel) rfl
theorem lm19_85 : Cond.methodLink (q_mY 19).cls 85 (q_mY 20) ∈ goodTbl := q_in 410 (by decide +kernel) rfl
theorem lm20_81 : Cond.methodLink (q_mY 20).cls 81 (q_mY 21) ∈ goodTbl := q_in 406 (by decide +kernel) rfl
theorem lm25_89 : Cond.methodLink (q_mY 25).cls 89 (q_mY 24) ∈ goodTbl := q_in 484 (by decide +kernel) rfl
theorem lm26_89 : Cond.methodLink (q_mY 26).cls 89 (q_mY 24) ∈ goodTbl := q_in 484 (by decide +kernel) rfl
theorem lm27_92 : Cond.methodLink (q_mY 27).cls 92 (q_mY 23) ∈ goodTbl := q_in 489 (by decide +kernel) rfl
theorem lm28_95 : Cond.methodLink (q_mY 28).cls 95 (q_mY 25) ∈ goodTbl := q_in 480 (by decide +kernel) rfl
theorem lm28_99 : Cond.methodLink (q_mY 28).cls 99 (q_mY 26) ∈ goodTbl := q_in 485 (by decide +kernel) rfl
theorem lm28_92 : Cond.methodLink (q_mY 28).cls 92 (q_mY 23) ∈ goodTbl := q_in 489 (by decide +kernel) rfl
theorem lm28_75 : Cond.methodLink (q_mY 28).cls 75 (q_mY 158) ∈ goodTbl := q_in 392 (by decide +kernel) rfl
theorem lm28_102 : Cond.methodLink (q_mY 28).cls 102 (q_mY 27) ∈ goodTbl := q_in 490 (by decide +kernel) rfl
theorem lm29_105 : Cond.methodLink (q_mY 29).cls 105 (q_mY 155) ∈ goodTbl := q_in 673 (by decide +kernel) rfl
theorem lm29_95 : Cond.methodLink (q_mY 29).cls 95 (q_mY 25) ∈ goodTbl := q_in 480 (by decide +kernel) rfl
theorem lm29_110 : ∀ U, q_Nw U → va_Nw (.methodLinkNest (q_mY 29).cls 110 (q_mY 90) "NeverCross") U := fun U h => h.2.2.2.2.2.2.2.2.1
theorem lm30_47 : Cond.methodLink (q_mY 30).cls 47 (q_mY 158) ∈ goodTbl := q_in 525 (by decide +kernel) rfl
theorem lm30_53 : Cond.methodLink (q_mY 30).cls 53 (q_mY 31) ∈ goodTbl := q_in 526 (by decide +kernel) rfl
theorem lm30_62 : Cond.methodLink (q_mY 30).cls 62 (q_mY 25) ∈ goodTbl := q_in 548 (by decide +kernel) rfl
theorem lm30_66 : Cond.methodLink (q_mY 30).cls 66 (q_mY 26) ∈ goodTbl := q_in 549 (by decide +kernel) rfl
theorem lm31_72 : Cond.methodLink (q_mY 31).cls 72 (q_mY 32) ∈ goodTbl := q_in 530 (by decide +kernel) rfl
theorem lm31_53 : Cond.methodLink (q_mY 31).cls 53 (q_mY 31) ∈ goodTbl := q_in 526 (by decide +kernel) rfl
theorem lm32_88 : ∀ U, q_Nw U → va_Nw (.methodLinkNest (q_mY 32).cls 88 (q_mY 87) "NeverCross") U := fun U h => h.2.2.1
theorem lm32_92 : Cond.methodLink (q_mY 32).cls 92 (q_mY 33) ∈ goodTbl := q_in 535 (by decide +kernel) rfl
theorem lm33_98 : ∀ U, q_Nw U → va_Nw (.methodLinkNest (q_mY 33).cls 98 (q_mY 90) "NeverCross") U := fun U h => h.2.2.2.1
theorem lm33_105 : Cond.methodLink (q_mY 33).cls 105 (q_mY 34) ∈ goodTbl := q_in 542 (by decide +kernel) rfl
theorem lm37_108 : Cond.methodLink (q_mY 37).cls 108 (q_mY 23) ∈ goodTbl := q_in 645 (by decide +kernel) rfl
theorem lm38_108 : Cond.methodLink (q_mY 38).cls 108 (q_mY 23) ∈ goodTbl := q_in 645 (by decide +kernel) rfl
theorem lm39_7 : ∀ U, q_Nw U → va_Nw (.methodLinkNest (q_mY 39).cls 7 (q_mY 89) "NeverCross") U := fun U h => h.2.2.2.2.2.2.1
theorem lx41_33 : Cond.methodLink (q_mY 41).cls 33 Lib.Math.min.name ∈ goodTbl := q_in 510 (by decide +kernel) rfl
theorem lm41_40 : Cond.methodLink (q_mY 41).cls 40 (q_mY 25) ∈ goodTbl := q_in 511 (by decide +kernel) rfl
theorem lm41_44 : Cond.methodLink (q_mY 41).cls 44 (q_mY 42) ∈ goodTbl := q_in 512 (by decide +kernel) rfl
theorem lm42_48 : Cond.methodLink (q_mY 42).cls 48 (q_mY 27) ∈ goodTbl := q_in 516 (by decide +kernel) rfl
theorem lm42_44 : Cond.methodLink (q_mY 42).cls 44 (q_mY 42) ∈ goodTbl := q_in 512 (by decide +kernel) rfl
theorem lm42_57 : Cond.methodLink (q_mY 42).cls 57 (q_mY 43) ∈ goodTbl := q_in 517 (by decide +kernel) rfl
theorem lm44_100 : Cond.methodLink (q_mY 44).cls 100 (q_mY 72) ∈ goodTbl := q_in 376 (by decide +kernel) rfl
theorem lm45_107 : Cond.methodLink (q_mY 45).cls 107 (q_mY 16) ∈ goodTbl := q_in 384 (by decide +kernel) rfl
theorem lm45_114 : Cond.methodLink (q_mY 45).cls 114 (q_mY 4) ∈ goodTbl := q_in 418 (by decide +kernel) rfl
theorem lm46_121 : Cond.methodLink (q_mY 46).cls 121 (q_mY 23) ∈ goodTbl := q_in 446 (by decide +kernel) rfl
theorem lm46_100 : Cond.methodLink (q_mY 46).cls 100 (q_mY 72) ∈ goodTbl := q_in 376 (by decide +kernel) rfl
theorem lm47_100 : Cond.methodLink (q_mY 47).cls 100 (q_mY 72) ∈ goodTbl := q_in 376 (by decide +kernel) rfl
theorem lm48_137 : Cond.methodLink (q_mY 48).cls 137 (q_mY 73) ∈ goodTbl := q_in 458 (by decide +kernel) rfl
theorem lm48_100 : Cond.methodLink (q_mY 48).cls 100 (q_mY 72) ∈ goodTbl := q_in 376 (by decide +kernel) rfl
theorem lm48_144 : Cond.methodLink (q_mY 48).cls 144 (q_mY 87) ∈ goodTbl := q_in 462 (by decide +kernel) rfl
theorem lm49_151 : Cond.methodLink (q_mY 49).cls 151 (q_mY 24) ∈ goodTbl := q_in 472 (by decide +kernel) rfl
theorem lm49_100 : Cond.methodLink (q_mY 49).cls 100 (q_mY 72) ∈ goodTbl := q_in 376 (by decide +kernel) rfl
theorem lm49_154 : Cond.methodLink (q_mY 49).cls 154 (q_mY 28) ∈ goodTbl := q_in 476 (by decide +kernel) rfl
theorem lm50_137 : Cond.methodLink (q_mY 50).cls 137 (q_mY 73) ∈ goodTbl := q_in 458 (by decide +kernel) rfl
theorem lm50_100 : Cond.methodLink (q_mY 50).cls 100 (q_mY 72) ∈ goodTbl := q_in 376 (by decide +kernel) rfl
theorem lm50_157 : Cond.methodLink (q_mY 50).cls 157 (q_mY 77) ∈ goodTbl := q_in 498 (by decide +kernel) rfl
theorem lm51_137 : Cond.methodLink (q_mY 51).cls 137 (q_mY 73) ∈ goodTbl := q_in 458 (by decide +kernel) rfl
theorem lm51_100 : Cond.methodLink (q_mY 51).cls 100 (q_mY 72) ∈ goodTbl := q_in 376 (by decide +kernel) rfl
theorem lm51_162 : Cond.methodLink (q_mY 51).cls 162 (q_mY 79) ∈ goodTbl := q_in 607 (by decide +kernel) rfl
theorem lm52_137 : Cond.methodLink (q_mY 52).cls 137 (q_mY 73) ∈ goodTbl := q_in 458 (by decide +kernel) rfl
theorem lm52_100 : Cond.methodLink (q_mY 52).cls 100 (q_mY 72) ∈ goodTbl := q_in 376 (by decide +kernel) rfl
theorem lm52_165 : Cond.methodLink (q_mY 52).cls 165 (q_mY 85) ∈ goodTbl := q_in 433 (by decide +kernel) rfl
theorem lm52_168 : Cond.methodLink (q_mY 52).cls 168 (q_mY 86) ∈ goodTbl := q_in 465 (by decide +kernel) rfl
theorem lm52_171 : Cond.methodLink (q_mY 52).cls 171 (q_mY 74) ∈ goodTbl := q_in 502 (by decide +kernel) rfl
theorem lm52_175 : Cond.methodLink (q_mY 52).cls 175 (q_mY 35) ∈ goodTbl := q_in 598 (by decide +kernel) rfl
theorem lm53_137 : Cond.methodLink (q_mY 53).cls 137 (q_mY 73) ∈ goodTbl := q_in 458 (by decide +kernel) rfl
theorem lm53_100 : Cond.methodLink (q_mY 53).cls 100 (q_mY 72) ∈ goodTbl := q_in 376 (by decide +kernel) rfl
theorem lm53_144 : Cond.methodLink (q_mY 53).cls 144 (q_mY 87) ∈ goodTbl := q_in 462 (by decide +kernel) rfl
theorem lm53_171 : Cond.methodLink (q_mY 53).cls 171 (q_mY 74) ∈ goodTbl := q_in 502 (by decide +kernel) rfl
theorem lm53_175 : Cond.methodLink (q_mY 53).cls 175 (q_mY 35) ∈ goodTbl := q_in 598 (by decide +kernel) rfl
theorem lm54_137 : Cond.methodLink (q_mY 54).cls 137 (q_mY 73) ∈ goodTbl := q_in 458 (by decide +kernel) rfl
theorem lm54_100 : Cond.methodLink (q_mY 54).cls 100 (q_mY 72) ∈ goodTbl := q_in 376 (by decide +kernel) rfl
theorem lm54_171 : Cond.methodLink (q_mY 54).cls 171 (q_mY 74) ∈ goodTbl := q_in 502 (by decide +kernel) rfl
theorem lm54_178 : Cond.methodLink (q_mY 54).cls 178 (q_mY 76) ∈ goodTbl := q_in 550 (by decide +kernel) rfl
theorem lm54_181 : Cond.methodLink (q_mY 54).cls 181 (q_mY 36) ∈ goodTbl := q_in 629 (by decide +kernel) rfl
theorem lm55_121 : Cond.methodLink (q_mY 55).cls 121 (q_mY 23) ∈ goodTbl := q_in 446 (by decide +kernel) rfl
theorem lm55_100 : Cond.methodLink (q_mY 55).cls 100 (q_mY 72) ∈ goodTbl := q_in 376 (by decide +kernel) rfl
theorem lm55_184 : Cond.methodLink (q_mY 55).cls 184 (q_mY 78) ∈ goodTbl := q_in 637 (by decide +kernel) rfl
theorem lm55_157 : Cond.methodLink (q_mY 55).cls 157 (q_mY 77) ∈ goodTbl := q_in 498 (by decide +kernel) rfl
theorem lm55_187 : Cond.methodLink (q_mY 55).cls 187 (q_mY 83) ∈ goodTbl := q_in 646 (by decide +kernel) rfl
theorem lm56_151 : Cond.methodLink (q_mY 56).cls 151 (q_mY 24) ∈ goodTbl := q_in 472 (by decide +kernel) rfl
theorem lm56_100 : Cond.methodLink (q_mY 56).cls 100 (q_mY 72) ∈ goodTbl := q_in 376 (by decide +kernel) rfl
theorem lm56_157 : Cond.methodLink (q_mY 56).cls 157 (q_mY 77) ∈ goodTbl := q_in 498 (by decide +kernel) rfl
theorem lm56_190 : Cond.methodLink (q_mY 56).cls 190 (q_mY 80) ∈ goodTbl := q_in 656 (by decide +kernel) rfl
theorem lm57_151 : Cond.methodLink (q_mY 57).cls 151 (q_mY 24) ∈ goodTbl := q_in 472 (by decide +kernel) rfl
theorem lm57_100 : Cond.methodLink (q_mY 57).cls 100 (q_mY 72) ∈ goodTbl := q_in 376 (by decide +kernel) rfl
theorem lm57_157 : Cond.methodLink (q_mY 57).cls 157 (q_mY 77) ∈ goodTbl := q_in 498 (by decide +kernel) rfl
theorem lm57_194 : Cond.methodLink (q_mY 57).cls 194 (q_mY 82) ∈ goodTbl := q_in 679 (by decide +kernel) rfl
theorem lm57_190 : Cond.methodLink (q_mY 57).cls 190 (q_mY 80) ∈ goodTbl := q_in 656 (by decide +kernel) rfl
theorem lm58_171 : Cond.methodLink (q_mY 58).cls 171 (q_mY 74) ∈ goodTbl := q_in 502 (by decide +kernel) rfl
theorem lm59_171 : Cond.methodLink (q_mY 59).cls 171 (q_mY 74) ∈ goodTbl := q_in 502 (by decide +kernel) rfl
theorem lm60_121 : Cond.methodLink (q_mY 60).cls 121 (q_mY 23) ∈ goodTbl := q_in 446 (by decide +kernel) rfl
theorem lm60_100 : Cond.methodLink (q_mY 60).cls 100 (q_mY 72) ∈ goodTbl := q_in 376 (by decide +kernel) rfl
theorem lm61_137 : Cond.methodLink (q_mY 61).cls 137 (q_mY 73) ∈ goodTbl := q_in 458 (by decide +kernel) rfl
theorem lm61_100 : Cond.methodLink (q_mY 61).cls 100 (q_mY 72) ∈ goodTbl := q_in 376 (by decide +kernel) rfl
theorem lm61_209 : Cond.methodLink (q_mY 61).cls 209 (q_mY 6) ∈ goodTbl := q_in 701 (by decide +kernel) rfl
theorem lm61_157 : Cond.methodLink (q_mY 61).cls 157 (q_mY 77) ∈ goodTbl := q_in 498 (by decide +kernel) rfl
theorem lm61_171 : Cond.methodLink (q_mY 61).cls 171 (q_mY 74) ∈ goodTbl := q_in 502 (by decide +kernel) rfl
theorem lm61_212 : Cond.methodLink (q_mY 61).cls 212 (q_mY 75) ∈ goodTbl := q_in 554 (by decide +kernel) rfl
theorem lm61_217 : Cond.methodLink (q_mY 61).cls 217 (q_mY 1) ∈ goodTbl := q_in 660 (by decide +kernel) rfl
theorem lm62_121 : Cond.methodLink (q_mY 62).cls 121 (q_mY 23) ∈ goodTbl := q_in 446 (by decide +kernel) rfl
theorem lm62_100 : Cond.methodLink (q_mY 62).cls 100 (q_mY 72) ∈ goodTbl := q_in 376 (by decide +kernel) rfl
theorem lm62_171 : Cond.methodLink (q_mY 62).cls 171 (q_mY 74) ∈ goodTbl := q_in 502 (by decide +kernel) rfl
theorem lm62_178 : Cond.methodLink (q_mY 62).cls 178 (q_mY 76) ∈ goodTbl := q_in 550 (by decide +kernel) rfl
theorem lm62_221 : Cond.methodLink (q_mY 62).cls 221 (q_mY 38) ∈ goodTbl := q_in 709 (by decide +kernel) rfl
theorem lm63_121 : Cond.methodLink (q_mY 63).cls 121 (q_mY 23) ∈ goodTbl := q_in 446 (by decide +kernel) rfl
theorem lm63_100 : Cond.methodLink (q_mY 63).cls 100 (q_mY 72) ∈ goodTbl := q_in 376 (by decide +kernel) rfl
theorem lm63_184 : Cond.methodLink (q_mY 63).cls 184 (q_mY 78) ∈ goodTbl := q_in 637 (by decide +kernel) rfl
theorem lm64_224 : Cond.methodLink (q_mY 64).cls 224 (q_mY 41) ∈ goodTbl := q_in 506 (by decide +kernel) rfl
theorem lm64_217 : Cond.methodLink (q_mY 64).cls 217 (q_mY 1) ∈ goodTbl := q_in 660 (by decide +kernel) rfl
theorem lm65_100 : Cond.methodLink (q_mY 65).cls 100 (q_mY 72) ∈ goodTbl := q_in 376 (by decide +kernel) rfl
theorem lm65_228 : Cond.methodLink (q_mY 65).cls 228 (q_mY 84) ∈ goodTbl := q_in 725 (by decide +kernel) rfl
theorem lm66_151 : Cond.methodLink (q_mY 66).cls 151 (q_mY 24) ∈ goodTbl := q_in 472 (by decide +kernel) rfl
theorem lm66_100 : Cond.methodLink (q_mY 66).cls 100 (q_mY 72) ∈ goodTbl := q_in 376 (by decide +kernel) rfl
theorem lm67_137 : Cond.methodLink (q_mY 67).cls 137 (q_mY 73) ∈ goodTbl := q_in 458 (by decide +kernel) rfl
theorem lm67_100 : Cond.methodLink (q_mY 67).cls 100 (q_mY 72) ∈ goodTbl := q_in 376 (by decide +kernel) rfl
theorem lm67_239 : Cond.methodLink (q_mY 67).cls 239 (q_mY 7) ∈ goodTbl := q_in 736 (by decide +kernel) rfl
theorem lm67_242 : Cond.methodLink (q_mY 67).cls 242 (q_mY 81) ∈ goodTbl := q_in 742 (by decide +kernel) rfl
theorem lm67_245 : Cond.methodLink (q_mY 67).cls 245 (q_mY 10) ∈ goodTbl := q_in 751 (by decide +kernel) rfl
theorem lm68_248 : Cond.methodLink (q_mY 68).cls 248 (q_mY 5) ∈ goodTbl := q_in 764 (by decide +kernel) rfl
theorem lm69_251 : Cond.methodLink (q_mY 69).cls 251 (q_mY 3) ∈ goodTbl := q_in 769 (by decide +kernel) rfl
theorem lm70_100 : Cond.methodLink (q_mY 70).cls 100 (q_mY 72) ∈ goodTbl := q_in 376 (by decide +kernel) rfl
theorem lm70_251 : Cond.methodLink (q_mY 70).cls 251 (q_mY 3) ∈ goodTbl := q_in 769 (by decide +kernel) rfl
theorem lm74_224 : Cond.methodLink (q_mY 74).cls 224 (q_mY 41) ∈ goodTbl := q_in 506 (by decide +kernel) rfl
theorem lm74_271 : Cond.methodLink (q_mY 74).cls 271 (q_mY 30) ∈ goodTbl := q_in 521 (by decide +kernel) rfl
theorem lm76_212 : Cond.methodLink (q_mY 76).cls 212 (q_mY 75) ∈ goodTbl := q_in 554 (by decide +kernel) rfl
theorem lm76_165 : Cond.methodLink (q_mY 76).cls 165 (q_mY 85) ∈ goodTbl := q_in 433 (by decide +kernel) rfl
theorem lm76_168 : Cond.methodLink (q_mY 76).cls 168 (q_mY 86) ∈ goodTbl := q_in 465 (by decide +kernel) rfl
theorem lm76_277 : Cond.methodLink (q_mY 76).cls 277 (q_mY 11) ∈ goodTbl := q_in 558 (by decide +kernel) rfl
theorem ou76_277_0 : q_okU 76 277 11 3 0 := ⟨"NeverCross$Any", "NeverCross$Law", _, _, ⟨"NeverCross$Law", "takes", "(III)Z"⟩, rfl, om11, by decide +kernel, by decide +kernel, (by
  intro w hw
  simp only [List.mem_cons, List.not_mem_nil, or_false] at hw
  rcases hw with rfl | rfl | rfl | rfl | rfl
  · exact q_in 558 (by decide +kernel) rfl
  · exact q_in 560 (by decide +kernel) rfl
  · exact q_in 561 (by decide +kernel) rfl
  · exact q_in 559 (by decide +kernel) rfl
  · exact q_in 59 (by decide +kernel) rfl), fun s args hts _ => va_Decl.of (hts _ (q_in 559 (by decide +kernel) rfl)) (hts _ (om11.2.1))⟩
theorem ou76_277_3 : q_okU 76 277 11 3 3 := ⟨"NeverCross$Next", "NeverCross$Law", _, _, ⟨"NeverCross$Law", "takes", "(III)Z"⟩, rfl, om11, by decide +kernel, by decide +kernel, (by
  intro w hw
  simp only [List.mem_cons, List.not_mem_nil, or_false] at hw
  rcases hw with rfl | rfl | rfl | rfl | rfl
  · exact q_in 558 (by decide +kernel) rfl
  · exact q_in 560 (by decide +kernel) rfl
  · exact q_in 562 (by decide +kernel) rfl
  · exact q_in 559 (by decide +kernel) rfl
  · exact q_in 59 (by decide +kernel) rfl), fun s args hts _ => va_Decl.of (hts _ (q_in 559 (by decide +kernel) rfl)) (hts _ (om11.2.1))⟩
theorem ou76_277_4 : q_okU 76 277 11 3 4 := ⟨"NeverCross$Own", "NeverCross$Law", _, _, ⟨"NeverCross$Law", "takes", "(III)Z"⟩, rfl, om11, by decide +kernel, by decide +kernel, (by
  intro w hw
  simp only [List.mem_cons, List.not_mem_nil, or_false] at hw
  rcases hw with rfl | rfl | rfl | rfl | rfl
  · exact q_in 558 (by decide +kernel) rfl
  · exact q_in 560 (by decide +kernel) rfl
  · exact q_in 563 (by decide +kernel) rfl
  · exact q_in 559 (by decide +kernel) rfl
  · exact q_in 59 (by decide +kernel) rfl), fun s args hts _ => va_Decl.of (hts _ (q_in 559 (by decide +kernel) rfl)) (hts _ (om11.2.1))⟩
theorem ou76_277_7 : q_okU 76 277 11 3 7 := ⟨"NeverCross$Told", "NeverCross$Law", _, _, ⟨"NeverCross$Law", "takes", "(III)Z"⟩, rfl, om11, by decide +kernel, by decide +kernel, (by
  intro w hw
  simp only [List.mem_cons, List.not_mem_nil, or_false] at hw
  rcases hw with rfl | rfl | rfl | rfl | rfl
  · exact q_in 558 (by decide +kernel) rfl
  · exact q_in 560 (by decide +kernel) rfl
  · exact q_in 564 (by decide +kernel) rfl
  · exact q_in 559 (by decide +kernel) rfl
  · exact q_in 59 (by decide +kernel) rfl), fun s args hts _ => va_Decl.of (hts _ (q_in 559 (by decide +kernel) rfl)) (hts _ (om11.2.1))⟩
theorem ou76_277_8 : q_okU 76 277 11 3 8 := ⟨"NeverCross$Turned", "NeverCross$Law", _, _, ⟨"NeverCross$Law", "takes", "(III)Z"⟩, rfl, om11, by decide +kernel, by decide +kernel, (by
  intro w hw
  simp only [List.mem_cons, List.not_mem_nil, or_false] at hw
  rcases hw with rfl | rfl | rfl | rfl | rfl
  · exact q_in 558 (by decide +kernel) rfl
  · exact q_in 560 (by decide +kernel) rfl
  · exact q_in 565 (by decide +kernel) rfl
  · exact q_in 559 (by decide +kernel) rfl
  · exact q_in 59 (by decide +kernel) rfl), fun s args hts _ => va_Decl.of (hts _ (q_in 559 (by decide +kernel) rfl)) (hts _ (om11.2.1))⟩
theorem lm77_171 : Cond.methodLink (q_mY 77).cls 171 (q_mY 74) ∈ goodTbl := q_in 502 (by decide +kernel) rfl
theorem lm77_178 : Cond.methodLink (q_mY 77).cls 178 (q_mY 76) ∈ goodTbl := q_in 550 (by decide +kernel) rfl
theorem lm77_175 : Cond.methodLink (q_mY 77).cls 175 (q_mY 35) ∈ goodTbl := q_in 598 (by decide +kernel) rfl
theorem lm78_171 : Cond.methodLink (q_mY 78).cls 171 (q_mY 74) ∈ goodTbl := q_in 502 (by decide +kernel) rfl
theorem lm78_178 : Cond.methodLink (q_mY 78).cls 178 (q_mY 76) ∈ goodTbl := q_in 550 (by decide +kernel) rfl
theorem lm78_281 : Cond.methodLink (q_mY 78).cls 281 (q_mY 37) ∈ goodTbl := q_in 641 (by decide +kernel) rfl
theorem lm79_283 : Cond.methodLink (q_mY 79).cls 283 (q_mY 155) ∈ goodTbl := q_in 611 (by decide +kernel) rfl
theorem lm79_154 : Cond.methodLink (q_mY 79).cls 154 (q_mY 28) ∈ goodTbl := q_in 476 (by decide +kernel) rfl
theorem lm79_162 : Cond.methodLink (q_mY 79).cls 162 (q_mY 79) ∈ goodTbl := q_in 607 (by decide +kernel) rfl
theorem lm80_212 : Cond.methodLink (q_mY 80).cls 212 (q_mY 75) ∈ goodTbl := q_in 554 (by decide +kernel) rfl
theorem lm80_217 : Cond.methodLink (q_mY 80).cls 217 (q_mY 1) ∈ goodTbl := q_in 660 (by decide +kernel) rfl
theorem lm80_291 : Cond.methodLink (q_mY 80).cls 291 (q_mY 29) ∈ goodTbl := q_in 669 (by decide +kernel) rfl
theorem lm81_294 : Cond.methodLink (q_mY 81).cls 294 (q_mY 8) ∈ goodTbl := q_in 746 (by decide +kernel) rfl
theorem lm81_121 : Cond.methodLink (q_mY 81).cls 121 (q_mY 23) ∈ goodTbl := q_in 446 (by decide +kernel) rfl
theorem lm81_212 : Cond.methodLink (q_mY 81).cls 212 (q_mY 75) ∈ goodTbl := q_in 554 (by decide +kernel) rfl
theorem ou81_297_0 : q_okU 81 297 0 3 0 := ⟨"NeverCross$Any", "NeverCross$Law", _, _, ⟨"NeverCross$Law", "wellsFor", "(III)I"⟩, rfl, om0, by decide +kernel, by decide +kernel, (by
  intro w hw
  simp only [List.mem_cons, List.not_mem_nil, or_false] at hw
  rcases hw with rfl | rfl | rfl | rfl | rfl
  · exact q_in 750 (by decide +kernel) rfl
  · exact q_in 569 (by decide +kernel) rfl
  · exact q_in 570 (by decide +kernel) rfl
  · exact q_in 571 (by decide +kernel) rfl
  · exact q_in 63 (by decide +kernel) rfl), fun s args _ h => va_Decl.abs (h.2.2.2.2.2.1)⟩
theorem ou81_297_3 : q_okU 81 297 14 3 3 := ⟨"NeverCross$Next", "NeverCross$Law", _, _, ⟨"NeverCross$Law", "wellsFor", "(III)I"⟩, rfl, om14, by decide +kernel, by decide +kernel, (by
  intro w hw
  simp only [List.mem_cons, List.not_mem_nil, or_false] at hw
  rcases hw with rfl | rfl | rfl | rfl | rfl
  · exact q_in 750 (by decide +kernel) rfl
  · exact q_in 569 (by decide +kernel) rfl
  · exact q_in 573 (by decide +kernel) rfl
  · exact q_in 574 (by decide +kernel) rfl
  · exact q_in 60 (by decide +kernel) rfl), fun s args _ h => va_Decl.abs (h.2.2.2.2.2.1)⟩
theorem ou81_297_4 : q_okU 81 297 14 3 4 := ⟨"NeverCross$Own", "NeverCross$Law", _, _, ⟨"NeverCross$Law", "wellsFor", "(III)I"⟩, rfl, om14, by decide +kernel, by decide +kernel, (by
  intro w hw
  simp only [List.mem_cons, List.not_mem_nil, or_false] at hw
  rcases hw with rfl | rfl | rfl | rfl | rfl
  · exact q_in 750 (by decide +kernel) rfl
  · exact q_in 569 (by decide +kernel) rfl
  · exact q_in 594 (by decide +kernel) rfl
  · exact q_in 574 (by decide +kernel) rfl
  · exact q_in 60 (by decide +kernel) rfl), fun s args _ h => va_Decl.abs (h.2.2.2.2.2.1)⟩
theorem ou81_297_7 : q_okU 81 297 14 3 7 := ⟨"NeverCross$Told", "NeverCross$Law", _, _, ⟨"NeverCross$Law", "wellsFor", "(III)I"⟩, rfl, om14, by decide +kernel, by decide +kernel, (by
  intro w hw
  simp only [List.mem_cons, List.not_mem_nil, or_false] at hw
  rcases hw with rfl | rfl | rfl | rfl | rfl
  · exact q_in 750 (by decide +kernel) rfl
  · exact q_in 569 (by decide +kernel) rfl
  · exact q_in 595 (by decide +kernel) rfl
  · exact q_in 574 (by decide +kernel) rfl
  · exact q_in 60 (by decide +kernel) rfl), fun s args _ h => va_Decl.abs (h.2.2.2.2.2.1)⟩
theorem ou81_297_8 : q_okU 81 297 14 3 8 := ⟨"NeverCross$Turned", "NeverCross$Law", _, _, ⟨"NeverCross$Law", "wellsFor", "(III)I"⟩, rfl, om14, by decide +kernel, by decide +kernel, (by
  intro w hw
  simp only [List.mem_cons, List.not_mem_nil, or_false] at hw
  rcases hw with rfl | rfl | rfl | rfl | rfl
  · exact q_in 750 (by decide +kernel) rfl
  · exact q_in 569 (by decide +kernel) rfl
  · exact q_in 596 (by decide +kernel) rfl
  · exact q_in 574 (by decide +kernel) rfl
  · exact q_in 60 (by decide +kernel) rfl), fun s args _ h => va_Decl.abs (h.2.2.2.2.2.1)⟩
theorem lx83_302 : Cond.methodLink (q_mY 83).cls 302 Lib.Math.max.name ∈ goodTbl := q_in 649 (by decide +kernel) rfl
theorem lm87_165 : Cond.methodLink (q_mY 87).cls 165 (q_mY 85) ∈ goodTbl := q_in 433 (by decide +kernel) rfl
theorem lm87_168 : Cond.methodLink (q_mY 87).cls 168 (q_mY 86) ∈ goodTbl := q_in 465 (by decide +kernel) rfl
theorem lm88_165 : Cond.methodLink (q_mY 88).cls 165 (q_mY 85) ∈ goodTbl := q_in 433 (by decide +kernel) rfl
theorem lm96_64 : Cond.methodLink (q_mY 96).cls 64 (q_mY 95) ∈ goodTbl := q_in 904 (by decide +kernel) rfl
theorem lm96_68 : Cond.methodLink (q_mY 96).cls 68 (q_mY 92) ∈ goodTbl := q_in 908 (by decide +kernel) rfl
theorem lm97_68 : Cond.methodLink (q_mY 97).cls 68 (q_mY 92) ∈ goodTbl := q_in 908 (by decide +kernel) rfl
theorem lm101_72 : Cond.methodLink (q_mY 101).cls 72 (q_mY 93) ∈ goodTbl := q_in 877 (by decide +kernel) rfl
theorem lm101_80 : Cond.methodLink (q_mY 101).cls 80 (q_mY 91) ∈ goodTbl := q_in 880 (by decide +kernel) rfl
theorem lm103_90 : Cond.methodLink (q_mY 103).cls 90 (q_mY 102) ∈ goodTbl := q_in 892 (by decide +kernel) rfl
theorem lm104_93 : Cond.methodLink (q_mY 104).cls 93 (q_mY 103) ∈ goodTbl := q_in 888 (by decide +kernel) rfl
theorem lm105_96 : Cond.methodLink (q_mY 105).cls 96 (q_mY 96) ∈ goodTbl := q_in 900 (by decide +kernel) rfl
theorem lm105_80 : Cond.methodLink (q_mY 105).cls 80 (q_mY 91) ∈ goodTbl := q_in 880 (by decide +kernel) rfl
theorem lm105_68 : Cond.methodLink (q_mY 105).cls 68 (q_mY 92) ∈ goodTbl := q_in 908 (by decide +kernel) rfl
theorem lm106_68 : Cond.methodLink (q_mY 106).cls 68 (q_mY 92) ∈ goodTbl := q_in 908 (by decide +kernel) rfl
theorem lm106_80 : Cond.methodLink (q_mY 106).cls 80 (q_mY 91) ∈ goodTbl := q_in 880 (by decide +kernel) rfl
theorem lm109_100 : Cond.methodLink (q_mY 109).cls 100 (q_mY 108) ∈ goodTbl := q_in 919 (by decide +kernel) rfl
theorem lm109_80 : Cond.methodLink (q_mY 109).cls 80 (q_mY 91) ∈ goodTbl := q_in 880 (by decide +kernel) rfl
theorem lm109_103 : Cond.methodLink (q_mY 109).cls 103 (q_mY 107) ∈ goodTbl := q_in 923 (by decide +kernel) rfl
theorem lm110_106 : Cond.methodLink (q_mY 110).cls 106 (q_mY 98) ∈ goodTbl := q_in 943 (by decide +kernel) rfl
theorem lm110_109 : Cond.methodLink (q_mY 110).cls 109 (q_mY 100) ∈ goodTbl := q_in 947 (by decide +kernel) rfl
theorem lm111_106 : Cond.methodLink (q_mY 111).cls 106 (q_mY 98) ∈ goodTbl := q_in 943 (by decide +kernel) rfl
theorem lm112_106 : Cond.methodLink (q_mY 112).cls 106 (q_mY 98) ∈ goodTbl := q_in 943 (by decide +kernel) rfl
theorem lm112_109 : Cond.methodLink (q_mY 112).cls 109 (q_mY 100) ∈ goodTbl := q_in 947 (by decide +kernel) rfl
theorem lm112_112 : Cond.methodLink (q_mY 112).cls 112 (q_mY 111) ∈ goodTbl := q_in 955 (by decide +kernel) rfl
theorem lm112_116 : Cond.methodLink (q_mY 112).cls 116 (q_mY 112) ∈ goodTbl := q_in 987 (by decide +kernel) rfl
theorem lm113_120 : Cond.methodLink (q_mY 113).cls 120 (q_mY 110) ∈ goodTbl := q_in 939 (by decide +kernel) rfl
theorem lm113_116 : Cond.methodLink (q_mY 113).cls 116 (q_mY 112) ∈ goodTbl := q_in 987 (by decide +kernel) rfl
theorem lm114_112 : Cond.methodLink (q_mY 114).cls 112 (q_mY 111) ∈ goodTbl := q_in 955 (by decide +kernel) rfl
theorem lm114_123 : Cond.methodLink (q_mY 114).cls 123 (q_mY 114) ∈ goodTbl := q_in 951 (by decide +kernel) rfl
theorem lm115_120 : Cond.methodLink (q_mY 115).cls 120 (q_mY 110) ∈ goodTbl := q_in 939 (by decide +kernel) rfl
theorem lm115_123 : Cond.methodLink (q_mY 115).cls 123 (q_mY 114) ∈ goodTbl := q_in 951 (by decide +kernel) rfl
theorem lm116_126 : Cond.methodLink (q_mY 116).cls 126 (q_mY 97) ∈ goodTbl := q_in 931 (by decide +kernel) rfl
theorem lm116_129 : Cond.methodLink (q_mY 116).cls 129 (q_mY 115) ∈ goodTbl := q_in 935 (by decide +kernel) rfl
theorem lm116_80 : Cond.methodLink (q_mY 116).cls 80 (q_mY 91) ∈ goodTbl := q_in 880 (by decide +kernel) rfl
theorem lm117_64 : Cond.methodLink (q_mY 117).cls 64 (q_mY 95) ∈ goodTbl := q_in 904 (by decide +kernel) rfl
theorem lm117_132 : Cond.methodLink (q_mY 117).cls 132 (q_mY 99) ∈ goodTbl := q_in 1003 (by decide +kernel) rfl
theorem lm118_135 : Cond.methodLink (q_mY 118).cls 135 (q_mY 117) ∈ goodTbl := q_in 999 (by decide +kernel) rfl
theorem lm118_64 : Cond.methodLink (q_mY 118).cls 64 (q_mY 95) ∈ goodTbl := q_in 904 (by decide +kernel) rfl
theorem lm119_153 : Cond.methodLink (q_mY 119).cls 153 (q_mY 118) ∈ goodTbl := q_in 995 (by decide +kernel) rfl
theorem lm119_157 : Cond.methodLink (q_mY 119).cls 157 (q_mY 119) ∈ goodTbl := q_in 991 (by decide +kernel) rfl
theorem lm120_161 : Cond.methodLink (q_mY 120).cls 161 (q_mY 113) ∈ goodTbl := q_in 983 (by decide +kernel) rfl
theorem lm120_157 : Cond.methodLink (q_mY 120).cls 157 (q_mY 119) ∈ goodTbl := q_in 991 (by decide +kernel) rfl
theorem lm122_164 : Cond.methodLink (q_mY 122).cls 164 (q_mY 121) ∈ goodTbl := q_in 975 (by decide +kernel) rfl
theorem lm122_167 : Cond.methodLink (q_mY 122).cls 167 (q_mY 120) ∈ goodTbl := q_in 979 (by decide +kernel) rfl
theorem lm123_167 : Cond.methodLink (q_mY 123).cls 167 (q_mY 120) ∈ goodTbl := q_in 979 (by decide +kernel) rfl
theorem lm125_170 : Cond.methodLink (q_mY 125).cls 170 (q_mY 122) ∈ goodTbl := q_in 971 (by decide +kernel) rfl
theorem lm126_173 : Cond.methodLink (q_mY 126).cls 173 (q_mY 124) ∈ goodTbl := q_in 963 (by decide +kernel) rfl
theorem lm126_177 : Cond.methodLink (q_mY 126).cls 177 (q_mY 125) ∈ goodTbl := q_in 967 (by decide +kernel) rfl
theorem lm126_80 : Cond.methodLink (q_mY 126).cls 80 (q_mY 91) ∈ goodTbl := q_in 880 (by decide +kernel) rfl
theorem lm127_129 : Cond.methodLink (q_mY 127).cls 129 (q_mY 115) ∈ goodTbl := q_in 935 (by decide +kernel) rfl
theorem lm127_180 : Cond.methodLink (q_mY 127).cls 180 (q_mY 127) ∈ goodTbl := q_in 1011 (by decide +kernel) rfl
theorem lm128_173 : Cond.methodLink (q_mY 128).cls 173 (q_mY 124) ∈ goodTbl := q_in 963 (by decide +kernel) rfl
theorem lm128_180 : Cond.methodLink (q_mY 128).cls 180 (q_mY 127) ∈ goodTbl := q_in 1011 (by decide +kernel) rfl
theorem lm128_80 : Cond.methodLink (q_mY 128).cls 80 (q_mY 91) ∈ goodTbl := q_in 880 (by decide +kernel) rfl
theorem lm129_173 : Cond.methodLink (q_mY 129).cls 173 (q_mY 124) ∈ goodTbl := q_in 963 (by decide +kernel) rfl
theorem lm129_80 : Cond.methodLink (q_mY 129).cls 80 (q_mY 91) ∈ goodTbl := q_in 880 (by decide +kernel) rfl
theorem lm129_100 : Cond.methodLink (q_mY 129).cls 100 (q_mY 108) ∈ goodTbl := q_in 919 (by decide +kernel) rfl
theorem lm129_184 : Cond.methodLink (q_mY 129).cls 184 (q_mY 123) ∈ goodTbl := q_in 1020 (by decide +kernel) rfl
theorem lm130_173 : Cond.methodLink (q_mY 130).cls 173 (q_mY 124) ∈ goodTbl := q_in 963 (by decide +kernel) rfl
theorem lm130_100 : Cond.methodLink (q_mY 130).cls 100 (q_mY 108) ∈ goodTbl := q_in 919 (by decide +kernel) rfl
theorem lm130_80 : Cond.methodLink (q_mY 130).cls 80 (q_mY 91) ∈ goodTbl := q_in 880 (by decide +kernel) rfl
theorem lm130_184 : Cond.methodLink (q_mY 130).cls 184 (q_mY 123) ∈ goodTbl := q_in 1020 (by decide +kernel) rfl
theorem lm131_173 : Cond.methodLink (q_mY 131).cls 173 (q_mY 124) ∈ goodTbl := q_in 963 (by decide +kernel) rfl
theorem lm131_80 : Cond.methodLink (q_mY 131).cls 80 (q_mY 91) ∈ goodTbl := q_in 880 (by decide +kernel) rfl
theorem lm131_170 : Cond.methodLink (q_mY 131).cls 170 (q_mY 122) ∈ goodTbl := q_in 971 (by decide +kernel) rfl
theorem lm132_187 : Cond.methodLink (q_mY 132).cls 187 (q_mY 132) ∈ goodTbl := q_in 1036 (by decide +kernel) rfl
theorem lm133_96 : Cond.methodLink (q_mY 133).cls 96 (q_mY 96) ∈ goodTbl := q_in 900 (by decide +kernel) rfl
theorem lm133_80 : Cond.methodLink (q_mY 133).cls 80 (q_mY 91) ∈ goodTbl := q_in 880 (by decide +kernel) rfl
theorem lm133_68 : Cond.methodLink (q_mY 133).cls 68 (q_mY 92) ∈ goodTbl := q_in 908 (by decide +kernel) rfl
theorem lm133_170 : Cond.methodLink (q_mY 133).cls 170 (q_mY 122) ∈ goodTbl := q_in 971 (by decide +kernel) rfl
theorem lm133_187 : Cond.methodLink (q_mY 133).cls 187 (q_mY 132) ∈ goodTbl := q_in 1036 (by decide +kernel) rfl
theorem lm134_170 : Cond.methodLink (q_mY 134).cls 170 (q_mY 122) ∈ goodTbl := q_in 971 (by decide +kernel) rfl
theorem lm135_126 : Cond.methodLink (q_mY 135).cls 126 (q_mY 97) ∈ goodTbl := q_in 931 (by decide +kernel) rfl
theorem lm135_80 : Cond.methodLink (q_mY 135).cls 80 (q_mY 91) ∈ goodTbl := q_in 880 (by decide +kernel) rfl
theorem lm135_190 : Cond.methodLink (q_mY 135).cls 190 (q_mY 134) ∈ goodTbl := q_in 1043 (by decide +kernel) rfl
theorem lm136_126 : Cond.methodLink (q_mY 136).cls 126 (q_mY 97) ∈ goodTbl := q_in 931 (by decide +kernel) rfl
theorem lm136_80 : Cond.methodLink (q_mY 136).cls 80 (q_mY 91) ∈ goodTbl := q_in 880 (by decide +kernel) rfl
theorem lm136_177 : Cond.methodLink (q_mY 136).cls 177 (q_mY 125) ∈ goodTbl := q_in 967 (by decide +kernel) rfl
theorem lm136_190 : Cond.methodLink (q_mY 136).cls 190 (q_mY 134) ∈ goodTbl := q_in 1043 (by decide +kernel) rfl
theorem lm137_196 : Cond.methodLink (q_mY 137).cls 196 (q_mY 137) ∈ goodTbl := q_in 1062 (by decide +kernel) rfl
theorem lm138_161 : Cond.methodLink (q_mY 138).cls 161 (q_mY 113) ∈ goodTbl := q_in 983 (by decide +kernel) rfl
theorem lm138_196 : Cond.methodLink (q_mY 138).cls 196 (q_mY 137) ∈ goodTbl := q_in 1062 (by decide +kernel) rfl
theorem lm139_199 : Cond.methodLink (q_mY 139).cls 199 (q_mY 138) ∈ goodTbl := q_in 1058 (by decide +kernel) rfl
theorem lm140_199 : Cond.methodLink (q_mY 140).cls 199 (q_mY 138) ∈ goodTbl := q_in 1058 (by decide +kernel) rfl
theorem lm140_64 : Cond.methodLink (q_mY 140).cls 64 (q_mY 95) ∈ goodTbl := q_in 904 (by decide +kernel) rfl
theorem lm140_106 : Cond.methodLink (q_mY 140).cls 106 (q_mY 98) ∈ goodTbl := q_in 943 (by decide +kernel) rfl
theorem lm141_96 : Cond.methodLink (q_mY 141).cls 96 (q_mY 96) ∈ goodTbl := q_in 900 (by decide +kernel) rfl
theorem lm141_80 : Cond.methodLink (q_mY 141).cls 80 (q_mY 91) ∈ goodTbl := q_in 880 (by decide +kernel) rfl
theorem lm142_173 : Cond.methodLink (q_mY 142).cls 173 (q_mY 124) ∈ goodTbl := q_in 963 (by decide +kernel) rfl
theorem lm142_80 : Cond.methodLink (q_mY 142).cls 80 (q_mY 91) ∈ goodTbl := q_in 880 (by decide +kernel) rfl
theorem lm142_170 : Cond.methodLink (q_mY 142).cls 170 (q_mY 122) ∈ goodTbl := q_in 971 (by decide +kernel) rfl
theorem lm143_96 : Cond.methodLink (q_mY 143).cls 96 (q_mY 96) ∈ goodTbl := q_in 900 (by decide +kernel) rfl
theorem lm143_80 : Cond.methodLink (q_mY 143).cls 80 (q_mY 91) ∈ goodTbl := q_in 880 (by decide +kernel) rfl
theorem lm143_170 : Cond.methodLink (q_mY 143).cls 170 (q_mY 122) ∈ goodTbl := q_in 971 (by decide +kernel) rfl
theorem lm144_96 : Cond.methodLink (q_mY 144).cls 96 (q_mY 96) ∈ goodTbl := q_in 900 (by decide +kernel) rfl
theorem lm144_106 : Cond.methodLink (q_mY 144).cls 106 (q_mY 98) ∈ goodTbl := q_in 943 (by decide +kernel) rfl
theorem lm144_80 : Cond.methodLink (q_mY 144).cls 80 (q_mY 91) ∈ goodTbl := q_in 880 (by decide +kernel) rfl
theorem lm144_177 : Cond.methodLink (q_mY 144).cls 177 (q_mY 125) ∈ goodTbl := q_in 967 (by decide +kernel) rfl
theorem lm145_202 : Cond.methodLink (q_mY 145).cls 202 (q_mY 94) ∈ goodTbl := q_in 1090 (by decide +kernel) rfl
theorem lm145_64 : Cond.methodLink (q_mY 145).cls 64 (q_mY 95) ∈ goodTbl := q_in 904 (by decide +kernel) rfl
theorem lm145_106 : Cond.methodLink (q_mY 145).cls 106 (q_mY 98) ∈ goodTbl := q_in 943 (by decide +kernel) rfl
theorem lm145_109 : Cond.methodLink (q_mY 145).cls 109 (q_mY 100) ∈ goodTbl := q_in 947 (by decide +kernel) rfl
theorem lm145_167 : Cond.methodLink (q_mY 145).cls 167 (q_mY 120) ∈ goodTbl := q_in 979 (by decide +kernel) rfl
theorem lm146_187 : Cond.methodLink (q_mY 146).cls 187 (q_mY 132) ∈ goodTbl := q_in 1036 (by decide +kernel) rfl
theorem lm147_80 : Cond.methodLink (q_mY 147).cls 80 (q_mY 91) ∈ goodTbl := q_in 880 (by decide +kernel) rfl
theorem lm147_206 : Cond.methodLink (q_mY 147).cls 206 (q_mY 146) ∈ goodTbl := q_in 1097 (by decide +kernel) rfl
theorem lm148_126 : Cond.methodLink (q_mY 148).cls 126 (q_mY 97) ∈ goodTbl := q_in 931 (by decide +kernel) rfl
theorem lm148_68 : Cond.methodLink (q_mY 148).cls 68 (q_mY 92) ∈ goodTbl := q_in 908 (by decide +kernel) rfl
theorem lm148_80 : Cond.methodLink (q_mY 148).cls 80 (q_mY 91) ∈ goodTbl := q_in 880 (by decide +kernel) rfl
theorem lm149_120 : Cond.methodLink (q_mY 149).cls 120 (q_mY 110) ∈ goodTbl := q_in 939 (by decide +kernel) rfl
theorem lm149_112 : Cond.methodLink (q_mY 149).cls 112 (q_mY 111) ∈ goodTbl := q_in 955 (by decide +kernel) rfl
theorem lm150_173 : Cond.methodLink (q_mY 150).cls 173 (q_mY 124) ∈ goodTbl := q_in 963 (by decide +kernel) rfl
theorem lm150_80 : Cond.methodLink (q_mY 150).cls 80 (q_mY 91) ∈ goodTbl := q_in 880 (by decide +kernel) rfl
theorem lm150_212 : Cond.methodLink (q_mY 150).cls 212 (q_mY 149) ∈ goodTbl := q_in 1108 (by decide +kernel) rfl
theorem lm150_164 : Cond.methodLink (q_mY 150).cls 164 (q_mY 121) ∈ goodTbl := q_in 975 (by decide +kernel) rfl
theorem lm150_106 : Cond.methodLink (q_mY 150).cls 106 (q_mY 98) ∈ goodTbl := q_in 943 (by decide +kernel) rfl
theorem lm150_109 : Cond.methodLink (q_mY 150).cls 109 (q_mY 100) ∈ goodTbl := q_in 947 (by decide +kernel) rfl
theorem lm152_202 : Cond.methodLink (q_mY 152).cls 202 (q_mY 94) ∈ goodTbl := q_in 1090 (by decide +kernel) rfl
theorem lm152_64 : Cond.methodLink (q_mY 152).cls 64 (q_mY 95) ∈ goodTbl := q_in 904 (by decide +kernel) rfl
theorem lm153_80 : Cond.methodLink (q_mY 153).cls 80 (q_mY 91) ∈ goodTbl := q_in 880 (by decide +kernel) rfl
theorem lm153_202 : Cond.methodLink (q_mY 153).cls 202 (q_mY 94) ∈ goodTbl := q_in 1090 (by decide +kernel) rfl
theorem lm153_64 : Cond.methodLink (q_mY 153).cls 64 (q_mY 95) ∈ goodTbl := q_in 904 (by decide +kernel) rfl
theorem lm154_64 : Cond.methodLink (q_mY 154).cls 64 (q_mY 95) ∈ goodTbl := q_in 904 (by decide +kernel) rfl
theorem lm154_106 : Cond.methodLink (q_mY 154).cls 106 (q_mY 98) ∈ goodTbl := q_in 943 (by decide +kernel) rfl
theorem lm154_103 : Cond.methodLink (q_mY 154).cls 103 (q_mY 107) ∈ goodTbl := q_in 923 (by decide +kernel) rfl
theorem lm159_13 : Cond.methodLink (q_mY 159).cls 13 (q_mY 44) ∈ goodTbl := q_in 372 (by decide +kernel) rfl
theorem lm159_17 : Cond.methodLink (q_mY 159).cls 17 (q_mY 101) ∈ goodTbl := q_in 873 (by decide +kernel) rfl
theorem lm159_18 : Cond.methodLink (q_mY 159).cls 18 (q_mY 45) ∈ goodTbl := q_in 380 (by decide +kernel) rfl
theorem lm159_22 : Cond.methodLink (q_mY 159).cls 22 (q_mY 104) ∈ goodTbl := q_in 884 (by decide +kernel) rfl
theorem lm159_23 : Cond.methodLink (q_mY 159).cls 23 (q_mY 46) ∈ goodTbl := q_in 442 (by decide +kernel) rfl
theorem lm159_27 : Cond.methodLink (q_mY 159).cls 27 (q_mY 105) ∈ goodTbl := q_in 896 (by decide +kernel) rfl
theorem lm159_28 : Cond.methodLink (q_mY 159).cls 28 (q_mY 47) ∈ goodTbl := q_in 450 (by decide +kernel) rfl
theorem lm159_31 : Cond.methodLink (q_mY 159).cls 31 (q_mY 106) ∈ goodTbl := q_in 911 (by decide +kernel) rfl
theorem lm159_32 : Cond.methodLink (q_mY 159).cls 32 (q_mY 48) ∈ goodTbl := q_in 454 (by decide +kernel) rfl
theorem lm159_35 : Cond.methodLink (q_mY 159).cls 35 (q_mY 109) ∈ goodTbl := q_in 915 (by decide +kernel) rfl
theorem lm159_36 : Cond.methodLink (q_mY 159).cls 36 (q_mY 49) ∈ goodTbl := q_in 468 (by decide +kernel) rfl
theorem lm159_39 : Cond.methodLink (q_mY 159).cls 39 (q_mY 116) ∈ goodTbl := q_in 927 (by decide +kernel) rfl
theorem lm159_40 : Cond.methodLink (q_mY 159).cls 40 (q_mY 50) ∈ goodTbl := q_in 494 (by decide +kernel) rfl
theorem lm159_43 : Cond.methodLink (q_mY 159).cls 43 (q_mY 126) ∈ goodTbl := q_in 959 (by decide +kernel) rfl
theorem lm159_44 : Cond.methodLink (q_mY 159).cls 44 (q_mY 51) ∈ goodTbl := q_in 602 (by decide +kernel) rfl
theorem lm159_47 : Cond.methodLink (q_mY 159).cls 47 (q_mY 128) ∈ goodTbl := q_in 1007 (by decide +kernel) rfl
theorem lm159_48 : Cond.methodLink (q_mY 159).cls 48 (q_mY 52) ∈ goodTbl := q_in 617 (by decide +kernel) rfl
theorem lm159_51 : Cond.methodLink (q_mY 159).cls 51 (q_mY 129) ∈ goodTbl := q_in 1016 (by decide +kernel) rfl
theorem lm159_52 : Cond.methodLink (q_mY 159).cls 52 (q_mY 53) ∈ goodTbl := q_in 621 (by decide +kernel) rfl
theorem lm159_55 : Cond.methodLink (q_mY 159).cls 55 (q_mY 130) ∈ goodTbl := q_in 1024 (by decide +kernel) rfl
theorem lm159_56 : Cond.methodLink (q_mY 159).cls 56 (q_mY 54) ∈ goodTbl := q_in 625 (by decide +kernel) rfl
theorem lm159_59 : Cond.methodLink (q_mY 159).cls 59 (q_mY 131) ∈ goodTbl := q_in 1028 (by decide +kernel) rfl
theorem lm159_60 : Cond.methodLink (q_mY 159).cls 60 (q_mY 55) ∈ goodTbl := q_in 633 (by decide +kernel) rfl
theorem lm159_63 : Cond.methodLink (q_mY 159).cls 63 (q_mY 133) ∈ goodTbl := q_in 1032 (by decide +kernel) rfl
theorem lm159_64 : Cond.methodLink (q_mY 159).cls 64 (q_mY 56) ∈ goodTbl := q_in 652 (by decide +kernel) rfl
theorem lm159_68 : Cond.methodLink (q_mY 159).cls 68 (q_mY 135) ∈ goodTbl := q_in 1039 (by decide +kernel) rfl
theorem lm159_69 : Cond.methodLink (q_mY 159).cls 69 (q_mY 57) ∈ goodTbl := q_in 675 (by decide +kernel) rfl
theorem lm159_72 : Cond.methodLink (q_mY 159).cls 72 (q_mY 136) ∈ goodTbl := q_in 1047 (by decide +kernel) rfl
theorem lm159_73 : Cond.methodLink (q_mY 159).cls 73 (q_mY 58) ∈ goodTbl := q_in 685 (by decide +kernel) rfl
theorem lm159_76 : Cond.methodLink (q_mY 159).cls 76 (q_mY 139) ∈ goodTbl := q_in 1054 (by decide +kernel) rfl
theorem lm159_77 : Cond.methodLink (q_mY 159).cls 77 (q_mY 59) ∈ goodTbl := q_in 689 (by decide +kernel) rfl
theorem lm159_80 : Cond.methodLink (q_mY 159).cls 80 (q_mY 140) ∈ goodTbl := q_in 1066 (by decide +kernel) rfl
theorem lm159_81 : Cond.methodLink (q_mY 159).cls 81 (q_mY 60) ∈ goodTbl := q_in 693 (by decide +kernel) rfl
theorem lm159_84 : Cond.methodLink (q_mY 159).cls 84 (q_mY 141) ∈ goodTbl := q_in 1070 (by decide +kernel) rfl
theorem lm159_85 : Cond.methodLink (q_mY 159).cls 85 (q_mY 61) ∈ goodTbl := q_in 697 (by decide +kernel) rfl
theorem lm159_88 : Cond.methodLink (q_mY 159).cls 88 (q_mY 142) ∈ goodTbl := q_in 1074 (by decide +kernel) rfl
theorem lm159_89 : Cond.methodLink (q_mY 159).cls 89 (q_mY 62) ∈ goodTbl := q_in 705 (by decide +kernel) rfl
theorem lm159_92 : Cond.methodLink (q_mY 159).cls 92 (q_mY 143) ∈ goodTbl := q_in 1078 (by decide +kernel) rfl
theorem lm159_93 : Cond.methodLink (q_mY 159).cls 93 (q_mY 63) ∈ goodTbl := q_in 713 (by decide +kernel) rfl
theorem lm159_96 : Cond.methodLink (q_mY 159).cls 96 (q_mY 144) ∈ goodTbl := q_in 1082 (by decide +kernel) rfl
theorem lm159_97 : Cond.methodLink (q_mY 159).cls 97 (q_mY 64) ∈ goodTbl := q_in 717 (by decide +kernel) rfl
theorem lm159_100 : Cond.methodLink (q_mY 159).cls 100 (q_mY 145) ∈ goodTbl := q_in 1086 (by decide +kernel) rfl
theorem lm159_101 : Cond.methodLink (q_mY 159).cls 101 (q_mY 65) ∈ goodTbl := q_in 721 (by decide +kernel) rfl
theorem lm159_104 : Cond.methodLink (q_mY 159).cls 104 (q_mY 147) ∈ goodTbl := q_in 1093 (by decide +kernel) rfl
theorem lm159_105 : Cond.methodLink (q_mY 159).cls 105 (q_mY 66) ∈ goodTbl := q_in 728 (by decide +kernel) rfl
theorem lm159_108 : Cond.methodLink (q_mY 159).cls 108 (q_mY 148) ∈ goodTbl := q_in 1100 (by decide +kernel) rfl
theorem lm159_109 : Cond.methodLink (q_mY 159).cls 109 (q_mY 67) ∈ goodTbl := q_in 732 (by decide +kernel) rfl
theorem lm159_112 : Cond.methodLink (q_mY 159).cls 112 (q_mY 150) ∈ goodTbl := q_in 1104 (by decide +kernel) rfl
theorem lm159_113 : Cond.methodLink (q_mY 159).cls 113 (q_mY 68) ∈ goodTbl := q_in 760 (by decide +kernel) rfl
theorem lm159_116 : Cond.methodLink (q_mY 159).cls 116 (q_mY 151) ∈ goodTbl := q_in 1112 (by decide +kernel) rfl
theorem lm159_117 : Cond.methodLink (q_mY 159).cls 117 (q_mY 69) ∈ goodTbl := q_in 765 (by decide +kernel) rfl
theorem lm159_120 : Cond.methodLink (q_mY 159).cls 120 (q_mY 152) ∈ goodTbl := q_in 1116 (by decide +kernel) rfl
theorem lm159_121 : Cond.methodLink (q_mY 159).cls 121 (q_mY 70) ∈ goodTbl := q_in 774 (by decide +kernel) rfl
theorem lm159_124 : Cond.methodLink (q_mY 159).cls 124 (q_mY 153) ∈ goodTbl := q_in 1120 (by decide +kernel) rfl
theorem lm159_125 : Cond.methodLink (q_mY 159).cls 125 (q_mY 71) ∈ goodTbl := q_in 778 (by decide +kernel) rfl
theorem lm159_128 : Cond.methodLink (q_mY 159).cls 128 (q_mY 154) ∈ goodTbl := q_in 1124 (by decide +kernel) rfl
theorem oc_max : Cond.static Lib.Math.max.name ∈ goodTbl ∧ Cond.initialized "java/lang/Math" ∈ goodTbl ∧ Cond.code Lib.Math.max.name Lib.Math.max.code 2 (some .int) ∈ goodTbl := ⟨q_in 650 (by decide +kernel) rfl, q_in 70 (by decide +kernel) rfl, q_in 651 (by decide +kernel) rfl⟩
theorem oc_min : Cond.static Lib.Math.min.name ∈ goodTbl ∧ Cond.initialized "java/lang/Math" ∈ goodTbl ∧ Cond.code Lib.Math.min.name Lib.Math.min.code 2 (some .int) ∈ goodTbl := ⟨q_in 396 (by decide +kernel) rfl, q_in 70 (by decide +kernel) rfl, q_in 397 (by decide +kernel) rfl⟩
theorem oc_copy : Cond.native arraycopyName ∈ goodTbl ∧ Cond.static arraycopyName ∈ goodTbl ∧ Cond.initialized "java/lang/System" ∈ goodTbl := ⟨q_in 428 (by decide +kernel) rfl, q_in 427 (by decide +kernel) rfl, q_in 71 (by decide +kernel) rfl⟩
