theorem am_in {w : Cond} (i : Nat) (h : lw_tbl[i]? = some w) (hg : goodWord w = true) : w ∈ am_tbl := List.mem_filter.mpr ⟨List.mem_of_getElem? h, hg⟩
theorem am_inN {w : Cond} (i : Nat) (h : lw_tbl[i]? = some w) (hg : am_isN w = true) : w ∈ am_nest := List.mem_filter.mpr ⟨List.mem_of_getElem? h, hg⟩
theorem am_inA {ws : List Cond} (h : ∀ w ∈ ws, w ∈ lw_tbl) (hg : ws.all goodWord = true) : ∀ w ∈ ws, w ∈ am_tbl := fun w hw => List.mem_filter.mpr ⟨h w hw, List.all_eq_true.mp hg w hw⟩
theorem uw_X0 : ∀ w ∈ u_ws RX0 TX0 3, w ∈ am_tbl := am_inA (by decide +kernel) (by decide +kernel)
theorem uw_X2 : ∀ w ∈ u_ws RX2 TX2 8, w ∈ am_tbl := am_inA (by decide +kernel) (by decide +kernel)
theorem uw_X3 : ∀ w ∈ u_ws RX3 TX3 10, w ∈ am_tbl := am_inA (by decide +kernel) (by decide +kernel)
theorem uw_X4 : ∀ w ∈ u_ws RX4 TX4 3, w ∈ am_tbl := am_inA (by decide +kernel) (by decide +kernel)
theorem uw_X5 : ∀ w ∈ u_ws RX5 TX5 9, w ∈ am_tbl := am_inA (by decide +kernel) (by decide +kernel)
theorem uw_X6 : ∀ w ∈ u_ws RX6 TX6 7, w ∈ am_tbl := am_inA (by decide +kernel) (by decide +kernel)
theorem uw_X7 : ∀ w ∈ u_ws RX7 TX7 6, w ∈ am_tbl := am_inA (by decide +kernel) (by decide +kernel)
theorem uw_X8 : ∀ w ∈ u_ws RX8 TX8 16, w ∈ am_tbl := am_inA (by decide +kernel) (by decide +kernel)
theorem uw_X9 : ∀ w ∈ u_ws RX9 TX9 2, w ∈ am_tbl := am_inA (by decide +kernel) (by decide +kernel)
theorem uw_X10 : ∀ w ∈ u_ws RX10 TX10 6, w ∈ am_tbl := am_inA (by decide +kernel) (by decide +kernel)
theorem uw_X11 : ∀ w ∈ u_ws RX11 TX11 17, w ∈ am_tbl := am_inA (by decide +kernel) (by decide +kernel)
theorem uw_X12 : ∀ w ∈ u_ws RX12 TX12 32, w ∈ am_tbl := am_inA (by decide +kernel) (by decide +kernel)
theorem fl_X7_9_6 : AF RX7 9 6 0 2 (.array .int) true := ⟨RX7, TX7, 6, "DailyLie$Tokens", tyX7, rfl, uw_X7, by decide, rfl, by decide, (fun _ _ _ _ hz => hz), (Or.inl (am_in 157 (by decide +kernel) rfl)), tyX7_ok, nmX7, tyX7_ok 0 (by decide), rfl⟩
theorem fl_X7_15_6 : AF RX7 15 6 1 2 (.array .int) true := ⟨RX7, TX7, 6, "DailyLie$Tokens", tyX7, rfl, uw_X7, by decide, rfl, by decide, (fun _ _ _ _ hz => hz), (Or.inl (am_in 158 (by decide +kernel) rfl)), tyX7_ok, nmX7, tyX7_ok 1 (by decide), rfl⟩
theorem fl_X7_18_6 : AF RX7 18 6 2 2 (.array .int) true := ⟨RX7, TX7, 6, "DailyLie$Tokens", tyX7, rfl, uw_X7, by decide, rfl, by decide, (fun _ _ _ _ hz => hz), (Or.inl (am_in 159 (by decide +kernel) rfl)), tyX7_ok, nmX7, tyX7_ok 2 (by decide), rfl⟩
theorem fl_X7_21_6 : AF RX7 21 6 3 0 .int false := ⟨RX7, TX7, 6, "DailyLie$Tokens", tyX7, rfl, uw_X7, by decide, rfl, by decide, (fun _ _ _ _ hz => hz), (Or.inl (am_in 160 (by decide +kernel) rfl)), tyX7_ok, nmX7, tyX7_ok 3 (by decide), rfl⟩
theorem fl_X7_25_6 : AF RX7 25 6 4 0 .int false := ⟨RX7, TX7, 6, "DailyLie$Tokens", tyX7, rfl, uw_X7, by decide, rfl, by decide, (fun _ _ _ _ hz => hz), (Or.inl (am_in 161 (by decide +kernel) rfl)), tyX7_ok, nmX7, tyX7_ok 4 (by decide), rfl⟩
theorem fl_X7_28_6 : AF RX7 28 6 5 0 .int false := ⟨RX7, TX7, 6, "DailyLie$Tokens", tyX7, rfl, uw_X7, by decide, rfl, by decide, (fun _ _ _ _ hz => hz), (Or.inl (am_in 162 (by decide +kernel) rfl)), tyX7_ok, nmX7, tyX7_ok 5 (by decide), rfl⟩
theorem fl_X8_33_7 : AF RX8 33 7 0 0 .boolean false := ⟨RX8, TX8, 16, "DailyLie$Town", tyX8, rfl, uw_X8, by decide, rfl, by decide, (fun _ _ _ _ hz => hz), (Or.inl (am_in 185 (by decide +kernel) rfl)), tyX8_ok, nmX8, tyX8_ok 0 (by decide), rfl⟩
theorem fl_X8_37_7 : AF RX8 37 7 1 0 .int false := ⟨RX8, TX8, 16, "DailyLie$Town", tyX8, rfl, uw_X8, by decide, rfl, by decide, (fun _ _ _ _ hz => hz), (Or.inl (am_in 189 (by decide +kernel) rfl)), tyX8_ok, nmX8, tyX8_ok 1 (by decide), rfl⟩
theorem fl_X8_41_7 : AF RX8 41 7 2 0 .int false := ⟨RX8, TX8, 16, "DailyLie$Town", tyX8, rfl, uw_X8, by decide, rfl, by decide, (fun _ _ _ _ hz => hz), (Or.inl (am_in 193 (by decide +kernel) rfl)), tyX8_ok, nmX8, tyX8_ok 2 (by decide), rfl⟩
theorem fl_X8_44_7 : AF RX8 44 7 3 0 .int false := ⟨RX8, TX8, 16, "DailyLie$Town", tyX8, rfl, uw_X8, by decide, rfl, by decide, (fun _ _ _ _ hz => hz), (Or.inl (am_in 198 (by decide +kernel) rfl)), tyX8_ok, nmX8, tyX8_ok 3 (by decide), rfl⟩
theorem fl_X8_9_7 : AF RX8 9 7 4 2 (.array .int) true := ⟨RX8, TX8, 16, "DailyLie$Town", tyX8, rfl, uw_X8, by decide, rfl, by decide, (fun _ _ _ _ hz => hz), (Or.inl (am_in 202 (by decide +kernel) rfl)), tyX8_ok, nmX8, tyX8_ok 4 (by decide), rfl⟩
theorem fl_X8_15_7 : AF RX8 15 7 5 2 (.array .int) true := ⟨RX8, TX8, 16, "DailyLie$Town", tyX8, rfl, uw_X8, by decide, rfl, by decide, (fun _ _ _ _ hz => hz), (Or.inl (am_in 205 (by decide +kernel) rfl)), tyX8_ok, nmX8, tyX8_ok 5 (by decide), rfl⟩
theorem fl_X8_47_7 : AF RX8 47 7 6 0 .int false := ⟨RX8, TX8, 16, "DailyLie$Town", tyX8, rfl, uw_X8, by decide, rfl, by decide, (fun _ _ _ _ hz => hz), (Or.inl (am_in 210 (by decide +kernel) rfl)), tyX8_ok, nmX8, tyX8_ok 6 (by decide), rfl⟩
theorem fl_X8_18_7 : AF RX8 18 7 7 2 (.array .int) true := ⟨RX8, TX8, 16, "DailyLie$Town", tyX8, rfl, uw_X8, by decide, rfl, by decide, (fun _ _ _ _ hz => hz), (Or.inl (am_in 213 (by decide +kernel) rfl)), tyX8_ok, nmX8, tyX8_ok 7 (by decide), rfl⟩
theorem fl_X8_21_7 : AF RX8 21 7 8 2 (.array .int) true := ⟨RX8, TX8, 16, "DailyLie$Town", tyX8, rfl, uw_X8, by decide, rfl, by decide, (fun _ _ _ _ hz => hz), (Or.inl (am_in 215 (by decide +kernel) rfl)), tyX8_ok, nmX8, tyX8_ok 8 (by decide), rfl⟩
theorem fl_X8_24_7 : AF RX8 24 7 9 2 (.array .int) true := ⟨RX8, TX8, 16, "DailyLie$Town", tyX8, rfl, uw_X8, by decide, rfl, by decide, (fun _ _ _ _ hz => hz), (Or.inl (am_in 217 (by decide +kernel) rfl)), tyX8_ok, nmX8, tyX8_ok 9 (by decide), rfl⟩
theorem fl_X8_50_7 : AF RX8 50 7 10 0 .int false := ⟨RX8, TX8, 16, "DailyLie$Town", tyX8, rfl, uw_X8, by decide, rfl, by decide, (fun _ _ _ _ hz => hz), (Or.inl (am_in 219 (by decide +kernel) rfl)), tyX8_ok, nmX8, tyX8_ok 10 (by decide), rfl⟩
theorem fl_X8_27_7 : AF RX8 27 7 11 2 (.array .int) true := ⟨RX8, TX8, 16, "DailyLie$Town", tyX8, rfl, uw_X8, by decide, rfl, by decide, (fun _ _ _ _ hz => hz), (Or.inl (am_in 221 (by decide +kernel) rfl)), tyX8_ok, nmX8, tyX8_ok 11 (by decide), rfl⟩
theorem fl_X8_53_7 : AF RX8 53 7 12 0 .int false := ⟨RX8, TX8, 16, "DailyLie$Town", tyX8, rfl, uw_X8, by decide, rfl, by decide, (fun _ _ _ _ hz => hz), (Or.inl (am_in 222 (by decide +kernel) rfl)), tyX8_ok, nmX8, tyX8_ok 12 (by decide), rfl⟩
theorem fl_X8_30_7 : AF RX8 30 7 13 2 (.array .int) true := ⟨RX8, TX8, 16, "DailyLie$Town", tyX8, rfl, uw_X8, by decide, rfl, by decide, (fun _ _ _ _ hz => hz), (Or.inl (am_in 224 (by decide +kernel) rfl)), tyX8_ok, nmX8, tyX8_ok 13 (by decide), rfl⟩
theorem fl_X8_56_7 : AF RX8 56 7 14 0 .int false := ⟨RX8, TX8, 16, "DailyLie$Town", tyX8, rfl, uw_X8, by decide, rfl, by decide, (fun _ _ _ _ hz => hz), (Or.inl (am_in 225 (by decide +kernel) rfl)), tyX8_ok, nmX8, tyX8_ok 14 (by decide), rfl⟩
theorem fl_X8_59_7 : AF RX8 59 7 15 0 .boolean false := ⟨RX8, TX8, 16, "DailyLie$Town", tyX8, rfl, uw_X8, by decide, rfl, by decide, (fun _ _ _ _ hz => hz), (Or.inl (am_in 229 (by decide +kernel) rfl)), tyX8_ok, nmX8, tyX8_ok 15 (by decide), rfl⟩
theorem fl_X2_9_1 : AF RX2 9 1 0 2 (.array .int) true := ⟨RX2, TX2, 8, "DailyLie$Life", tyX2, rfl, uw_X2, by decide, rfl, by decide, (fun _ _ _ _ hz => hz), (Or.inl (am_in 281 (by decide +kernel) rfl)), tyX2_ok, nmX2, tyX2_ok 0 (by decide), rfl⟩
theorem fl_X2_15_1 : AF RX2 15 1 1 2 (.array .int) true := ⟨RX2, TX2, 8, "DailyLie$Life", tyX2, rfl, uw_X2, by decide, rfl, by decide, (fun _ _ _ _ hz => hz), (Or.inl (am_in 283 (by decide +kernel) rfl)), tyX2_ok, nmX2, tyX2_ok 1 (by decide), rfl⟩
theorem fl_X2_18_1 : AF RX2 18 1 2 2 (.array .int) true := ⟨RX2, TX2, 8, "DailyLie$Life", tyX2, rfl, uw_X2, by decide, rfl, by decide, (fun _ _ _ _ hz => hz), (Or.inl (am_in 285 (by decide +kernel) rfl)), tyX2_ok, nmX2, tyX2_ok 2 (by decide), rfl⟩
theorem fl_X2_21_1 : AF RX2 21 1 3 2 (.array .int) true := ⟨RX2, TX2, 8, "DailyLie$Life", tyX2, rfl, uw_X2, by decide, rfl, by decide, (fun _ _ _ _ hz => hz), (Or.inl (am_in 288 (by decide +kernel) rfl)), tyX2_ok, nmX2, tyX2_ok 3 (by decide), rfl⟩
theorem fl_X2_56_1 : AF RX2 56 1 4 0 .int false := ⟨RX2, TX2, 8, "DailyLie$Life", tyX2, rfl, uw_X2, by decide, rfl, by decide, (fun _ _ _ _ hz => hz), (Or.inl (am_in 291 (by decide +kernel) rfl)), tyX2_ok, nmX2, tyX2_ok 4 (by decide), rfl⟩
theorem fl_X2_59_1 : AF RX2 59 1 5 0 .int false := ⟨RX2, TX2, 8, "DailyLie$Life", tyX2, rfl, uw_X2, by decide, rfl, by decide, (fun _ _ _ _ hz => hz), (Or.inl (am_in 294 (by decide +kernel) rfl)), tyX2_ok, nmX2, tyX2_ok 5 (by decide), rfl⟩
theorem fl_X2_71_1 : AF RX2 71 1 6 0 .int false := ⟨RX2, TX2, 8, "DailyLie$Life", tyX2, rfl, uw_X2, by decide, rfl, by decide, (fun _ _ _ _ hz => hz), (Or.inl (am_in 297 (by decide +kernel) rfl)), tyX2_ok, nmX2, tyX2_ok 6 (by decide), rfl⟩
theorem fl_X2_24_1 : AF RX2 24 1 7 0 .int false := ⟨RX2, TX2, 8, "DailyLie$Life", tyX2, rfl, uw_X2, by decide, rfl, by decide, (fun _ _ _ _ hz => hz), (Or.inl (am_in 299 (by decide +kernel) rfl)), tyX2_ok, nmX2, tyX2_ok 7 (by decide), rfl⟩
theorem fl_X5_12_4 : AF RX5 12 4 0 2 (.object "DailyLie$Town") true := ⟨RX5, TX5, 9, "DailyLie$Situation", tyX5, rfl, uw_X5, by decide, rfl, by decide, (fun _ _ _ _ hz => hz), (Or.inl (am_in 318 (by decide +kernel) rfl)), tyX5_ok, nmX5, tyX5_ok 0 (by decide), rfl⟩
theorem fl_X5_21_4 : AF RX5 21 4 1 2 (.object "DailyLie$Life") true := ⟨RX5, TX5, 9, "DailyLie$Situation", tyX5, rfl, uw_X5, by decide, rfl, by decide, (fun _ _ _ _ hz => hz), (Or.inl (am_in 321 (by decide +kernel) rfl)), tyX5_ok, nmX5, tyX5_ok 1 (by decide), rfl⟩
theorem fl_X5_25_4 : AF RX5 25 4 2 0 .int false := ⟨RX5, TX5, 9, "DailyLie$Situation", tyX5, rfl, uw_X5, by decide, rfl, by decide, (fun _ _ _ _ hz => hz), (Or.inl (am_in 323 (by decide +kernel) rfl)), tyX5_ok, nmX5, tyX5_ok 2 (by decide), rfl⟩
theorem fl_X5_40_4 : AF RX5 40 4 3 0 .int false := ⟨RX5, TX5, 9, "DailyLie$Situation", tyX5, rfl, uw_X5, by decide, rfl, by decide, (fun _ _ _ _ hz => hz), (Or.inl (am_in 325 (by decide +kernel) rfl)), tyX5_ok, nmX5, tyX5_ok 3 (by decide), rfl⟩
theorem fl_X5_43_4 : AF RX5 43 4 4 0 .int false := ⟨RX5, TX5, 9, "DailyLie$Situation", tyX5, rfl, uw_X5, by decide, rfl, by decide, (fun _ _ _ _ hz => hz), (Or.inl (am_in 327 (by decide +kernel) rfl)), tyX5_ok, nmX5, tyX5_ok 4 (by decide), rfl⟩
theorem fl_X5_29_4 : AF RX5 29 4 5 2 (.array .int) true := ⟨RX5, TX5, 9, "DailyLie$Situation", tyX5, rfl, uw_X5, by decide, rfl, by decide, (fun _ _ _ _ hz => hz), (Or.inl (am_in 330 (by decide +kernel) rfl)), tyX5_ok, nmX5, tyX5_ok 5 (by decide), rfl⟩
theorem fl_X5_52_4 : AF RX5 52 4 6 0 .int false := ⟨RX5, TX5, 9, "DailyLie$Situation", tyX5, rfl, uw_X5, by decide, rfl, by decide, (fun _ _ _ _ hz => hz), (Or.inl (am_in 332 (by decide +kernel) rfl)), tyX5_ok, nmX5, tyX5_ok 6 (by decide), rfl⟩
theorem fl_X5_55_4 : AF RX5 55 4 7 0 .int false := ⟨RX5, TX5, 9, "DailyLie$Situation", tyX5, rfl, uw_X5, by decide, rfl, by decide, (fun _ _ _ _ hz => hz), (Or.inl (am_in 334 (by decide +kernel) rfl)), tyX5_ok, nmX5, tyX5_ok 7 (by decide), rfl⟩
theorem fl_X5_58_4 : AF RX5 58 4 8 0 .int false := ⟨RX5, TX5, 9, "DailyLie$Situation", tyX5, rfl, uw_X5, by decide, rfl, by decide, (fun _ _ _ _ hz => hz), (Or.inl (am_in 335 (by decide +kernel) rfl)), tyX5_ok, nmX5, tyX5_ok 8 (by decide), rfl⟩
theorem fl_X0_11_0 : AF RX0 11 0 0 2 (.array (.object "DailyLie$Life")) true := ⟨RX0, TX0, 3, "DailyLie$Acts", tyX0, rfl, uw_X0, by decide, rfl, by decide, (fun _ _ _ _ hz => hz), (Or.inl (am_in 365 (by decide +kernel) rfl)), tyX0_ok, nmX0, tyX0_ok 0 (by decide), rfl⟩
theorem fl_X0_18_0 : AF RX0 18 0 1 0 .int false := ⟨RX0, TX0, 3, "DailyLie$Acts", tyX0, rfl, uw_X0, by decide, rfl, by decide, (fun _ _ _ _ hz => hz), (Or.inl (am_in 366 (by decide +kernel) rfl)), tyX0_ok, nmX0, tyX0_ok 1 (by decide), rfl⟩
theorem fl_X0_22_0 : AF RX0 22 0 2 0 .int false := ⟨RX0, TX0, 3, "DailyLie$Acts", tyX0, rfl, uw_X0, by decide, rfl, by decide, (fun _ _ _ _ hz => hz), (Or.inl (am_in 367 (by decide +kernel) rfl)), tyX0_ok, nmX0, tyX0_ok 2 (by decide), rfl⟩
theorem fl_X6_9_5 : AF RX6 9 5 0 2 (.object "DailyLie$Town") true := ⟨RX6, TX6, 7, "DailyLie$Talk", tyX6, rfl, uw_X6, by decide, rfl, by decide, (fun _ _ _ _ hz => hz), (Or.inl (am_in 383 (by decide +kernel) rfl)), tyX6_ok, nmX6, tyX6_ok 0 (by decide), rfl⟩
theorem fl_X6_15_5 : AF RX6 15 5 1 2 (.object "DailyLie$Life") false := ⟨RX6, TX6, 7, "DailyLie$Talk", tyX6, rfl, uw_X6, by decide, rfl, by decide, (fun _ _ _ _ hz => hz), (Or.inl (am_in 385 (by decide +kernel) rfl)), tyX6_ok, nmX6, tyX6_ok 1 (by decide), rfl⟩
theorem fl_X6_19_5 : AF RX6 19 5 2 0 .int false := ⟨RX6, TX6, 7, "DailyLie$Talk", tyX6, rfl, uw_X6, by decide, rfl, by decide, (fun _ _ _ _ hz => hz), (Or.inl (am_in 387 (by decide +kernel) rfl)), tyX6_ok, nmX6, tyX6_ok 2 (by decide), rfl⟩
theorem fl_X6_23_5 : AF RX6 23 5 3 0 .int false := ⟨RX6, TX6, 7, "DailyLie$Talk", tyX6, rfl, uw_X6, by decide, rfl, by decide, (fun _ _ _ _ hz => hz), (Or.inl (am_in 390 (by decide +kernel) rfl)), tyX6_ok, nmX6, tyX6_ok 3 (by decide), rfl⟩
theorem fl_X6_26_5 : AF RX6 26 5 4 0 .int false := ⟨RX6, TX6, 7, "DailyLie$Talk", tyX6, rfl, uw_X6, by decide, rfl, by decide, (fun _ _ _ _ hz => hz), (Or.inl (am_in 393 (by decide +kernel) rfl)), tyX6_ok, nmX6, tyX6_ok 4 (by decide), rfl⟩
theorem fl_X6_29_5 : AF RX6 29 5 5 0 .int false := ⟨RX6, TX6, 7, "DailyLie$Talk", tyX6, rfl, uw_X6, by decide, rfl, by decide, (fun _ _ _ _ hz => hz), (Or.inl (am_in 396 (by decide +kernel) rfl)), tyX6_ok, nmX6, tyX6_ok 5 (by decide), rfl⟩
theorem fl_X6_59_5 : AF RX6 59 5 6 0 .int false := ⟨RX6, TX6, 7, "DailyLie$Talk", tyX6, rfl, uw_X6, by decide, rfl, by decide, (fun _ _ _ _ hz => hz), (Or.inl (am_in 399 (by decide +kernel) rfl)), tyX6_ok, nmX6, tyX6_ok 6 (by decide), rfl⟩
theorem fl_X10_27_9 : AF RX10 27 9 0 0 .int false := ⟨RX10, TX10, 6, "DailyLie$Truths", tyX10, rfl, uw_X10, by decide, rfl, by decide, (fun _ _ _ _ hz => hz), (Or.inl (am_in 422 (by decide +kernel) rfl)), tyX10_ok, nmX10, tyX10_ok 0 (by decide), rfl⟩
theorem fl_X10_30_9 : AF RX10 30 9 1 0 .int false := ⟨RX10, TX10, 6, "DailyLie$Truths", tyX10, rfl, uw_X10, by decide, rfl, by decide, (fun _ _ _ _ hz => hz), (Or.inl (am_in 424 (by decide +kernel) rfl)), tyX10_ok, nmX10, tyX10_ok 1 (by decide), rfl⟩
theorem fl_X10_33_9 : AF RX10 33 9 2 0 .int false := ⟨RX10, TX10, 6, "DailyLie$Truths", tyX10, rfl, uw_X10, by decide, rfl, by decide, (fun _ _ _ _ hz => hz), (Or.inl (am_in 426 (by decide +kernel) rfl)), tyX10_ok, nmX10, tyX10_ok 2 (by decide), rfl⟩
theorem fl_X10_36_9 : AF RX10 36 9 3 0 .int false := ⟨RX10, TX10, 6, "DailyLie$Truths", tyX10, rfl, uw_X10, by decide, rfl, by decide, (fun _ _ _ _ hz => hz), (Or.inl (am_in 428 (by decide +kernel) rfl)), tyX10_ok, nmX10, tyX10_ok 3 (by decide), rfl⟩
theorem fl_X10_39_9 : AF RX10 39 9 4 0 .int false := ⟨RX10, TX10, 6, "DailyLie$Truths", tyX10, rfl, uw_X10, by decide, rfl, by decide, (fun _ _ _ _ hz => hz), (Or.inl (am_in 430 (by decide +kernel) rfl)), tyX10_ok, nmX10, tyX10_ok 4 (by decide), rfl⟩
theorem fl_X10_9_9 : AF RX10 9 9 5 2 (.array .int) true := ⟨RX10, TX10, 6, "DailyLie$Truths", tyX10, rfl, uw_X10, by decide, rfl, by decide, (fun _ _ _ _ hz => hz), (Or.inl (am_in 432 (by decide +kernel) rfl)), tyX10_ok, nmX10, tyX10_ok 5 (by decide), rfl⟩
theorem fl_X3_31_2 : AF RX3 31 2 0 2 (.array .long) true := ⟨RX3, TX3, 10, "DailyLie$Rule", tyX3, rfl, uw_X3, by decide, rfl, by decide, (fun _ _ _ _ hz => hz), (Or.inl (am_in 453 (by decide +kernel) rfl)), tyX3_ok, nmX3, tyX3_ok 0 (by decide), rfl⟩
theorem fl_X3_9_2 : AF RX3 9 2 1 2 (.array .int) true := ⟨RX3, TX3, 10, "DailyLie$Rule", tyX3, rfl, uw_X3, by decide, rfl, by decide, (fun _ _ _ _ hz => hz), (Or.inl (am_in 454 (by decide +kernel) rfl)), tyX3_ok, nmX3, tyX3_ok 1 (by decide), rfl⟩
theorem fl_X3_15_2 : AF RX3 15 2 2 2 (.array .int) true := ⟨RX3, TX3, 10, "DailyLie$Rule", tyX3, rfl, uw_X3, by decide, rfl, by decide, (fun _ _ _ _ hz => hz), (Or.inl (am_in 455 (by decide +kernel) rfl)), tyX3_ok, nmX3, tyX3_ok 2 (by decide), rfl⟩
theorem fl_X3_35_2 : AF RX3 35 2 3 0 .int false := ⟨RX3, TX3, 10, "DailyLie$Rule", tyX3, rfl, uw_X3, by decide, rfl, by decide, (fun _ _ _ _ hz => hz), (Or.inl (am_in 456 (by decide +kernel) rfl)), tyX3_ok, nmX3, tyX3_ok 3 (by decide), rfl⟩
theorem fl_X3_18_2 : AF RX3 18 2 4 2 (.array .boolean) true := ⟨RX3, TX3, 10, "DailyLie$Rule", tyX3, rfl, uw_X3, by decide, rfl, by decide, (fun _ _ _ _ hz => hz), (Or.inl (am_in 458 (by decide +kernel) rfl)), tyX3_ok, nmX3, tyX3_ok 4 (by decide), rfl⟩
theorem fl_X3_22_2 : AF RX3 22 2 5 2 (.array .int) true := ⟨RX3, TX3, 10, "DailyLie$Rule", tyX3, rfl, uw_X3, by decide, rfl, by decide, (fun _ _ _ _ hz => hz), (Or.inl (am_in 459 (by decide +kernel) rfl)), tyX3_ok, nmX3, tyX3_ok 5 (by decide), rfl⟩
theorem fl_X3_25_2 : AF RX3 25 2 6 2 (.array .int) true := ⟨RX3, TX3, 10, "DailyLie$Rule", tyX3, rfl, uw_X3, by decide, rfl, by decide, (fun _ _ _ _ hz => hz), (Or.inl (am_in 460 (by decide +kernel) rfl)), tyX3_ok, nmX3, tyX3_ok 6 (by decide), rfl⟩
theorem fl_X3_28_2 : AF RX3 28 2 7 2 (.array .int) true := ⟨RX3, TX3, 10, "DailyLie$Rule", tyX3, rfl, uw_X3, by decide, rfl, by decide, (fun _ _ _ _ hz => hz), (Or.inl (am_in 461 (by decide +kernel) rfl)), tyX3_ok, nmX3, tyX3_ok 7 (by decide), rfl⟩
theorem fl_X3_39_2 : AF RX3 39 2 8 0 .int false := ⟨RX3, TX3, 10, "DailyLie$Rule", tyX3, rfl, uw_X3, by decide, rfl, by decide, (fun _ _ _ _ hz => hz), (Or.inl (am_in 462 (by decide +kernel) rfl)), tyX3_ok, nmX3, tyX3_ok 8 (by decide), rfl⟩
theorem fl_X3_42_2 : AF RX3 42 2 9 0 .boolean false := ⟨RX3, TX3, 10, "DailyLie$Rule", tyX3, rfl, uw_X3, by decide, rfl, by decide, (fun _ _ _ _ hz => hz), (Or.inl (am_in 463 (by decide +kernel) rfl)), tyX3_ok, nmX3, tyX3_ok 9 (by decide), rfl⟩
theorem fl_X9_9_8 : AF RX9 9 8 1 2 (.object "DailyLie$Town") false := ⟨RX9, TX9, 2, "DailyLie$TownReader", tyX9, rfl, uw_X9, by decide, rfl, by decide, (fun _ _ _ _ hz => hz), (Or.inl (am_in 496 (by decide +kernel) rfl)), tyX9_ok, nmX9, tyX9_ok 1 (by decide), rfl⟩
theorem fl_X1_9_3 : AF RX1 9 3 0 2 (.object "DailyLie$Tokens") true := ⟨RX4, TX4, 3, "DailyLie$ClauseReader", tyX4, rfl, uw_X4, by decide, rfl, by decide, (fun _ _ _ _ hz => hz), (Or.inl (am_in 497 (by decide +kernel) rfl)), tyX4_ok, nmX4, tyX4_ok 0 (by decide), rfl⟩
theorem fl_X1_9_8 : AF RX1 9 8 0 2 (.object "DailyLie$Tokens") true := ⟨RX9, TX9, 2, "DailyLie$ClauseReader", tyX9, rfl, uw_X9, by decide, rfl, by decide, (fun _ _ _ _ hz => hz), (Or.inl (am_in 497 (by decide +kernel) rfl)), tyX9_ok, nmX9, tyX9_ok 0 (by decide), rfl⟩
theorem fl_X4_25_3 : AF RX4 25 3 0 2 (.object "DailyLie$Tokens") true := ⟨RX4, TX4, 3, "DailyLie$RuleReader", tyX4, rfl, uw_X4, by decide, rfl, by decide, (fun args s ht z hz => u_same (ht _ (am_in 499 (by decide +kernel) rfl)) z hz), (Or.inl (am_in 498 (by decide +kernel) rfl)), tyX4_ok, nmX4, tyX4_ok 0 (by decide), rfl⟩
theorem fl_X9_21_8 : AF RX9 21 8 0 2 (.object "DailyLie$Tokens") true := ⟨RX9, TX9, 2, "DailyLie$TownReader", tyX9, rfl, uw_X9, by decide, rfl, by decide, (fun args s ht z hz => u_same (ht _ (am_in 501 (by decide +kernel) rfl)) z hz), (Or.inl (am_in 500 (by decide +kernel) rfl)), tyX9_ok, nmX9, tyX9_ok 0 (by decide), rfl⟩
theorem fl_X4_9_3 : AF RX4 9 3 1 2 (.object "DailyLie$Rule") false := ⟨RX4, TX4, 3, "DailyLie$RuleReader", tyX4, rfl, uw_X4, by decide, rfl, by decide, (fun _ _ _ _ hz => hz), (Or.inl (am_in 513 (by decide +kernel) rfl)), tyX4_ok, nmX4, tyX4_ok 1 (by decide), rfl⟩
theorem fl_X4_21_3 : AF RX4 21 3 2 0 .int false := ⟨RX4, TX4, 3, "DailyLie$RuleReader", tyX4, rfl, uw_X4, by decide, rfl, by decide, (fun _ _ _ _ hz => hz), (Or.inl (am_in 514 (by decide +kernel) rfl)), tyX4_ok, nmX4, tyX4_ok 2 (by decide), rfl⟩
theorem fl_X11_9_10 : AF RX11 9 10 0 2 (.array .byte) true := ⟨RX11, TX11, 17, "DailyLie", tyX11, rfl, uw_X11, by decide, rfl, by decide, (fun _ _ _ _ hz => hz), (Or.inl (am_in 521 (by decide +kernel) rfl)), tyX11_ok, nmX11, tyX11_ok 0 (by decide), rfl⟩
theorem fl_X11_109_10 : AF RX11 109 10 1 0 .int false := ⟨RX11, TX11, 17, "DailyLie", tyX11, rfl, uw_X11, by decide, rfl, by decide, (fun _ _ _ _ hz => hz), (Or.inl (am_in 522 (by decide +kernel) rfl)), tyX11_ok, nmX11, tyX11_ok 1 (by decide), rfl⟩
theorem fl_X11_16_10 : AF RX11 16 10 2 2 (.object "DailyLie$Tokens") true := ⟨RX11, TX11, 17, "DailyLie", tyX11, rfl, uw_X11, by decide, rfl, by decide, (fun _ _ _ _ hz => hz), (Or.inl (am_in 523 (by decide +kernel) rfl)), tyX11_ok, nmX11, tyX11_ok 2 (by decide), rfl⟩
theorem fl_X11_23_10 : AF RX11 23 10 3 2 (.object "DailyLie$Town") true := ⟨RX11, TX11, 17, "DailyLie", tyX11, rfl, uw_X11, by decide, rfl, by decide, (fun _ _ _ _ hz => hz), (Or.inl (am_in 524 (by decide +kernel) rfl)), tyX11_ok, nmX11, tyX11_ok 3 (by decide), rfl⟩
theorem fl_X11_29_10 : AF RX11 29 10 4 2 (.array (.object "DailyLie$Rule")) true := ⟨RX11, TX11, 17, "DailyLie", tyX11, rfl, uw_X11, by decide, rfl, by decide, (fun _ _ _ _ hz => hz), (Or.inl (am_in 525 (by decide +kernel) rfl)), tyX11_ok, nmX11, tyX11_ok 4 (by decide), rfl⟩
theorem fl_X11_138_10 : AF RX11 138 10 5 0 .int false := ⟨RX11, TX11, 17, "DailyLie", tyX11, rfl, uw_X11, by decide, rfl, by decide, (fun _ _ _ _ hz => hz), (Or.inl (am_in 526 (by decide +kernel) rfl)), tyX11_ok, nmX11, tyX11_ok 5 (by decide), rfl⟩
theorem fl_X11_96_10 : AF RX11 96 10 6 2 (.object "DailyLie$TownReader") true := ⟨RX11, TX11, 17, "DailyLie", tyX11, rfl, uw_X11, by decide, rfl, by decide, (fun _ _ _ _ hz => hz), (Or.inl (am_in 527 (by decide +kernel) rfl)), tyX11_ok, nmX11, tyX11_ok 6 (by decide), rfl⟩
theorem fl_X11_105_10 : AF RX11 105 10 7 2 (.object "DailyLie$RuleReader") true := ⟨RX11, TX11, 17, "DailyLie", tyX11, rfl, uw_X11, by decide, rfl, by decide, (fun _ _ _ _ hz => hz), (Or.inl (am_in 528 (by decide +kernel) rfl)), tyX11_ok, nmX11, tyX11_ok 7 (by decide), rfl⟩
theorem fl_X11_36_10 : AF RX11 36 10 8 2 (.object "DailyLie$Situation") true := ⟨RX11, TX11, 17, "DailyLie", tyX11, rfl, uw_X11, by decide, rfl, by decide, (fun _ _ _ _ hz => hz), (Or.inl (am_in 529 (by decide +kernel) rfl)), tyX11_ok, nmX11, tyX11_ok 8 (by decide), rfl⟩
theorem fl_X11_40_10 : AF RX11 40 10 9 2 (.array (.object "DailyLie$Situation")) true := ⟨RX11, TX11, 17, "DailyLie", tyX11, rfl, uw_X11, by decide, rfl, by decide, (fun _ _ _ _ hz => hz), (Or.inl (am_in 530 (by decide +kernel) rfl)), tyX11_ok, nmX11, tyX11_ok 9 (by decide), rfl⟩
theorem fl_X11_44_10 : AF RX11 44 10 10 2 (.array .boolean) true := ⟨RX11, TX11, 17, "DailyLie", tyX11, rfl, uw_X11, by decide, rfl, by decide, (fun _ _ _ _ hz => hz), (Or.inl (am_in 531 (by decide +kernel) rfl)), tyX11_ok, nmX11, tyX11_ok 10 (by decide), rfl⟩
theorem fl_X11_51_10 : AF RX11 51 10 11 2 (.object "DailyLie$Acts") true := ⟨RX11, TX11, 17, "DailyLie", tyX11, rfl, uw_X11, by decide, rfl, by decide, (fun _ _ _ _ hz => hz), (Or.inl (am_in 532 (by decide +kernel) rfl)), tyX11_ok, nmX11, tyX11_ok 11 (by decide), rfl⟩
theorem fl_X11_67_10 : AF RX11 67 10 12 2 (.object "DailyLie$Talk") true := ⟨RX11, TX11, 17, "DailyLie", tyX11, rfl, uw_X11, by decide, rfl, by decide, (fun _ _ _ _ hz => hz), (Or.inl (am_in 533 (by decide +kernel) rfl)), tyX11_ok, nmX11, tyX11_ok 12 (by decide), rfl⟩
theorem fl_X11_74_10 : AF RX11 74 10 13 2 (.object "DailyLie$Truths") true := ⟨RX11, TX11, 17, "DailyLie", tyX11, rfl, uw_X11, by decide, rfl, by decide, (fun _ _ _ _ hz => hz), (Or.inl (am_in 534 (by decide +kernel) rfl)), tyX11_ok, nmX11, tyX11_ok 13 (by decide), rfl⟩
theorem fl_X11_81_10 : AF RX11 81 10 14 2 (.object "DailyLie$Life") true := ⟨RX11, TX11, 17, "DailyLie", tyX11, rfl, uw_X11, by decide, rfl, by decide, (fun _ _ _ _ hz => hz), (Or.inl (am_in 535 (by decide +kernel) rfl)), tyX11_ok, nmX11, tyX11_ok 14 (by decide), rfl⟩
theorem fl_X11_394_10 : AF RX11 394 10 15 0 .int false := ⟨RX11, TX11, 17, "DailyLie", tyX11, rfl, uw_X11, by decide, rfl, by decide, (fun _ _ _ _ hz => hz), (Or.inl (am_in 536 (by decide +kernel) rfl)), tyX11_ok, nmX11, tyX11_ok 15 (by decide), rfl⟩
theorem fl_X11_84_10 : AF RX11 84 10 16 2 (.array .int) true := ⟨RX11, TX11, 17, "DailyLie", tyX11, rfl, uw_X11, by decide, rfl, by decide, (fun _ _ _ _ hz => hz), (Or.inl (am_in 537 (by decide +kernel) rfl)), tyX11_ok, nmX11, tyX11_ok 16 (by decide), rfl⟩
theorem fl_X12_7_11 : AF RX12 7 11 0 2 (.array .byte) true := ⟨RX12, TX12, 32, "DailyLieModel", tyX12, rfl, uw_X12, by decide, rfl, by decide, (fun _ _ _ _ hz => hz), (Or.inl (am_in 1234 (by decide +kernel) rfl)), tyX12_ok, nmX12, tyX12_ok 0 (by decide), rfl⟩
theorem fl_X12_68_11 : AF RX12 68 11 1 0 .int false := ⟨RX12, TX12, 32, "DailyLieModel", tyX12, rfl, uw_X12, by decide, rfl, by decide, (fun _ _ _ _ hz => hz), (Or.inl (am_in 1235 (by decide +kernel) rfl)), tyX12_ok, nmX12, tyX12_ok 1 (by decide), rfl⟩
theorem fl_X12_275_11 : AF RX12 275 11 2 0 .int false := ⟨RX12, TX12, 32, "DailyLieModel", tyX12, rfl, uw_X12, by decide, rfl, by decide, (fun _ _ _ _ hz => hz), (Or.inl (am_in 1236 (by decide +kernel) rfl)), tyX12_ok, nmX12, tyX12_ok 2 (by decide), rfl⟩
theorem fl_X12_13_11 : AF RX12 13 11 3 2 (.array .int) true := ⟨RX12, TX12, 32, "DailyLieModel", tyX12, rfl, uw_X12, by decide, rfl, by decide, (fun _ _ _ _ hz => hz), (Or.inl (am_in 1237 (by decide +kernel) rfl)), tyX12_ok, nmX12, tyX12_ok 3 (by decide), rfl⟩
theorem fl_X12_17_11 : AF RX12 17 11 4 2 (.array .int) true := ⟨RX12, TX12, 32, "DailyLieModel", tyX12, rfl, uw_X12, by decide, rfl, by decide, (fun _ _ _ _ hz => hz), (Or.inl (am_in 1238 (by decide +kernel) rfl)), tyX12_ok, nmX12, tyX12_ok 4 (by decide), rfl⟩
theorem fl_X12_20_11 : AF RX12 20 11 5 2 (.array .int) true := ⟨RX12, TX12, 32, "DailyLieModel", tyX12, rfl, uw_X12, by decide, rfl, by decide, (fun _ _ _ _ hz => hz), (Or.inl (am_in 1239 (by decide +kernel) rfl)), tyX12_ok, nmX12, tyX12_ok 5 (by decide), rfl⟩
theorem fl_X12_23_11 : AF RX12 23 11 6 2 (.array .int) true := ⟨RX12, TX12, 32, "DailyLieModel", tyX12, rfl, uw_X12, by decide, rfl, by decide, (fun _ _ _ _ hz => hz), (Or.inl (am_in 1240 (by decide +kernel) rfl)), tyX12_ok, nmX12, tyX12_ok 6 (by decide), rfl⟩
theorem fl_X12_26_11 : AF RX12 26 11 7 2 (.array .int) true := ⟨RX12, TX12, 32, "DailyLieModel", tyX12, rfl, uw_X12, by decide, rfl, by decide, (fun _ _ _ _ hz => hz), (Or.inl (am_in 1241 (by decide +kernel) rfl)), tyX12_ok, nmX12, tyX12_ok 7 (by decide), rfl⟩
theorem fl_X12_78_11 : AF RX12 78 11 8 0 .int false := ⟨RX12, TX12, 32, "DailyLieModel", tyX12, rfl, uw_X12, by decide, rfl, by decide, (fun _ _ _ _ hz => hz), (Or.inl (am_in 1242 (by decide +kernel) rfl)), tyX12_ok, nmX12, tyX12_ok 8 (by decide), rfl⟩
theorem fl_X12_75_11 : AF RX12 75 11 9 0 .int false := ⟨RX12, TX12, 32, "DailyLieModel", tyX12, rfl, uw_X12, by decide, rfl, by decide, (fun _ _ _ _ hz => hz), (Or.inl (am_in 1243 (by decide +kernel) rfl)), tyX12_ok, nmX12, tyX12_ok 9 (by decide), rfl⟩
theorem fl_X12_103_11 : AF RX12 103 11 10 0 .int false := ⟨RX12, TX12, 32, "DailyLieModel", tyX12, rfl, uw_X12, by decide, rfl, by decide, (fun _ _ _ _ hz => hz), (Or.inl (am_in 1244 (by decide +kernel) rfl)), tyX12_ok, nmX12, tyX12_ok 10 (by decide), rfl⟩
theorem fl_X12_138_11 : AF RX12 138 11 11 0 .int false := ⟨RX12, TX12, 32, "DailyLieModel", tyX12, rfl, uw_X12, by decide, rfl, by decide, (fun _ _ _ _ hz => hz), (Or.inl (am_in 1245 (by decide +kernel) rfl)), tyX12_ok, nmX12, tyX12_ok 11 (by decide), rfl⟩
theorem fl_X12_141_11 : AF RX12 141 11 12 0 .int false := ⟨RX12, TX12, 32, "DailyLieModel", tyX12, rfl, uw_X12, by decide, rfl, by decide, (fun _ _ _ _ hz => hz), (Or.inl (am_in 1246 (by decide +kernel) rfl)), tyX12_ok, nmX12, tyX12_ok 12 (by decide), rfl⟩
theorem fl_X12_144_11 : AF RX12 144 11 13 0 .int false := ⟨RX12, TX12, 32, "DailyLieModel", tyX12, rfl, uw_X12, by decide, rfl, by decide, (fun _ _ _ _ hz => hz), (Or.inl (am_in 1247 (by decide +kernel) rfl)), tyX12_ok, nmX12, tyX12_ok 13 (by decide), rfl⟩
theorem fl_X12_263_11 : AF RX12 263 11 14 0 .int false := ⟨RX12, TX12, 32, "DailyLieModel", tyX12, rfl, uw_X12, by decide, rfl, by decide, (fun _ _ _ _ hz => hz), (Or.inl (am_in 1248 (by decide +kernel) rfl)), tyX12_ok, nmX12, tyX12_ok 14 (by decide), rfl⟩
theorem fl_X12_29_11 : AF RX12 29 11 15 2 (.array .int) true := ⟨RX12, TX12, 32, "DailyLieModel", tyX12, rfl, uw_X12, by decide, rfl, by decide, (fun _ _ _ _ hz => hz), (Or.inl (am_in 1249 (by decide +kernel) rfl)), tyX12_ok, nmX12, tyX12_ok 15 (by decide), rfl⟩
theorem fl_X12_147_11 : AF RX12 147 11 16 0 .int false := ⟨RX12, TX12, 32, "DailyLieModel", tyX12, rfl, uw_X12, by decide, rfl, by decide, (fun _ _ _ _ hz => hz), (Or.inl (am_in 1250 (by decide +kernel) rfl)), tyX12_ok, nmX12, tyX12_ok 16 (by decide), rfl⟩
theorem fl_X12_32_11 : AF RX12 32 11 17 2 (.array .long) true := ⟨RX12, TX12, 32, "DailyLieModel", tyX12, rfl, uw_X12, by decide, rfl, by decide, (fun _ _ _ _ hz => hz), (Or.inl (am_in 1251 (by decide +kernel) rfl)), tyX12_ok, nmX12, tyX12_ok 17 (by decide), rfl⟩
theorem fl_X12_284_11 : AF RX12 284 11 18 0 .int false := ⟨RX12, TX12, 32, "DailyLieModel", tyX12, rfl, uw_X12, by decide, rfl, by decide, (fun _ _ _ _ hz => hz), (Or.inl (am_in 1252 (by decide +kernel) rfl)), tyX12_ok, nmX12, tyX12_ok 18 (by decide), rfl⟩
theorem fl_X12_36_11 : AF RX12 36 11 19 2 (.array .long) true := ⟨RX12, TX12, 32, "DailyLieModel", tyX12, rfl, uw_X12, by decide, rfl, by decide, (fun _ _ _ _ hz => hz), (Or.inl (am_in 1253 (by decide +kernel) rfl)), tyX12_ok, nmX12, tyX12_ok 19 (by decide), rfl⟩
theorem fl_X12_39_11 : AF RX12 39 11 20 2 (.array .int) true := ⟨RX12, TX12, 32, "DailyLieModel", tyX12, rfl, uw_X12, by decide, rfl, by decide, (fun _ _ _ _ hz => hz), (Or.inl (am_in 1254 (by decide +kernel) rfl)), tyX12_ok, nmX12, tyX12_ok 20 (by decide), rfl⟩
theorem fl_X12_42_11 : AF RX12 42 11 21 0 .int false := ⟨RX12, TX12, 32, "DailyLieModel", tyX12, rfl, uw_X12, by decide, rfl, by decide, (fun _ _ _ _ hz => hz), (Or.inl (am_in 1255 (by decide +kernel) rfl)), tyX12_ok, nmX12, tyX12_ok 21 (by decide), rfl⟩
theorem fl_X12_437_11 : AF RX12 437 11 22 0 .int false := ⟨RX12, TX12, 32, "DailyLieModel", tyX12, rfl, uw_X12, by decide, rfl, by decide, (fun _ _ _ _ hz => hz), (Or.inl (am_in 1256 (by decide +kernel) rfl)), tyX12_ok, nmX12, tyX12_ok 22 (by decide), rfl⟩
theorem fl_X12_46_11 : AF RX12 46 11 23 2 (.array .int) true := ⟨RX12, TX12, 32, "DailyLieModel", tyX12, rfl, uw_X12, by decide, rfl, by decide, (fun _ _ _ _ hz => hz), (Or.inl (am_in 1257 (by decide +kernel) rfl)), tyX12_ok, nmX12, tyX12_ok 23 (by decide), rfl⟩
theorem fl_X12_49_11 : AF RX12 49 11 24 2 (.array .int) true := ⟨RX12, TX12, 32, "DailyLieModel", tyX12, rfl, uw_X12, by decide, rfl, by decide, (fun _ _ _ _ hz => hz), (Or.inl (am_in 1258 (by decide +kernel) rfl)), tyX12_ok, nmX12, tyX12_ok 24 (by decide), rfl⟩
theorem fl_X12_281_11 : AF RX12 281 11 25 0 .int false := ⟨RX12, TX12, 32, "DailyLieModel", tyX12, rfl, uw_X12, by decide, rfl, by decide, (fun _ _ _ _ hz => hz), (Or.inl (am_in 1259 (by decide +kernel) rfl)), tyX12_ok, nmX12, tyX12_ok 25 (by decide), rfl⟩
theorem fl_X12_52_11 : AF RX12 52 11 26 2 (.array .int) true := ⟨RX12, TX12, 32, "DailyLieModel", tyX12, rfl, uw_X12, by decide, rfl, by decide, (fun _ _ _ _ hz => hz), (Or.inl (am_in 1260 (by decide +kernel) rfl)), tyX12_ok, nmX12, tyX12_ok 26 (by decide), rfl⟩
theorem fl_X12_440_11 : AF RX12 440 11 27 1 .long false := ⟨RX12, TX12, 32, "DailyLieModel", tyX12, rfl, uw_X12, by decide, rfl, by decide, (fun _ _ _ _ hz => hz), (Or.inl (am_in 1261 (by decide +kernel) rfl)), tyX12_ok, nmX12, tyX12_ok 27 (by decide), rfl⟩
theorem fl_X12_55_11 : AF RX12 55 11 28 2 (.array .int) true := ⟨RX12, TX12, 32, "DailyLieModel", tyX12, rfl, uw_X12, by decide, rfl, by decide, (fun _ _ _ _ hz => hz), (Or.inl (am_in 1262 (by decide +kernel) rfl)), tyX12_ok, nmX12, tyX12_ok 28 (by decide), rfl⟩
theorem fl_X12_58_11 : AF RX12 58 11 29 2 (.array .int) true := ⟨RX12, TX12, 32, "DailyLieModel", tyX12, rfl, uw_X12, by decide, rfl, by decide, (fun _ _ _ _ hz => hz), (Or.inl (am_in 1263 (by decide +kernel) rfl)), tyX12_ok, nmX12, tyX12_ok 29 (by decide), rfl⟩
theorem fl_X12_61_11 : AF RX12 61 11 30 2 (.array .int) true := ⟨RX12, TX12, 32, "DailyLieModel", tyX12, rfl, uw_X12, by decide, rfl, by decide, (fun _ _ _ _ hz => hz), (Or.inl (am_in 1264 (by decide +kernel) rfl)), tyX12_ok, nmX12, tyX12_ok 30 (by decide), rfl⟩
theorem fl_X12_64_11 : AF RX12 64 11 31 2 (.array .boolean) true := ⟨RX12, TX12, 32, "DailyLieModel", tyX12, rfl, uw_X12, by decide, rfl, by decide, (fun _ _ _ _ hz => hz), (Or.inl (am_in 1265 (by decide +kernel) rfl)), tyX12_ok, nmX12, tyX12_ok 31 (by decide), rfl⟩
theorem fl_X1_39_6 : AF RX1 39 6 5 0 .int false := ⟨RX7, TX7, 6, "DailyLie$Tokens", tyX7, rfl, uw_X7, by decide, rfl, by decide, (fun _ _ _ _ hz => hz), (Or.inr (Or.inl ⟨rfl, "DailyLie", am_inN 163 (by decide +kernel) rfl⟩)), tyX7_ok, nmX7, tyX7_ok 5 (by decide), rfl⟩
theorem fl_X5_61_7 : AF RX5 61 7 0 0 .boolean false := ⟨RX8, TX8, 16, "DailyLie$Town", tyX8, rfl, uw_X8, by decide, rfl, by decide, (fun _ _ _ _ hz => hz), (Or.inr (Or.inl ⟨rfl, "DailyLie", am_inN 186 (by decide +kernel) rfl⟩)), tyX8_ok, nmX8, tyX8_ok 0 (by decide), rfl⟩
theorem fl_X11_262_7 : AF RX11 262 7 0 0 .boolean false := ⟨RX8, TX8, 16, "DailyLie$Town", tyX8, rfl, uw_X8, by decide, rfl, by decide, (fun _ _ _ _ hz => hz), (Or.inr (Or.inl ⟨rfl, "DailyLie", am_inN 187 (by decide +kernel) rfl⟩)), tyX8_ok, nmX8, tyX8_ok 0 (by decide), rfl⟩
theorem fl_X10_21_7 : AF RX10 21 7 1 0 .int false := ⟨RX8, TX8, 16, "DailyLie$Town", tyX8, rfl, uw_X8, by decide, rfl, by decide, (fun _ _ _ _ hz => hz), (Or.inr (Or.inl ⟨rfl, "DailyLie", am_inN 188 (by decide +kernel) rfl⟩)), tyX8_ok, nmX8, tyX8_ok 1 (by decide), rfl⟩
theorem fl_X2_39_7 : AF RX2 39 7 1 0 .int false := ⟨RX8, TX8, 16, "DailyLie$Town", tyX8, rfl, uw_X8, by decide, rfl, by decide, (fun _ _ _ _ hz => hz), (Or.inr (Or.inl ⟨rfl, "DailyLie", am_inN 190 (by decide +kernel) rfl⟩)), tyX8_ok, nmX8, tyX8_ok 1 (by decide), rfl⟩
theorem fl_X9_87_7 : AF RX9 87 7 1 0 .int false := ⟨RX8, TX8, 16, "DailyLie$Town", tyX8, rfl, uw_X8, by decide, rfl, by decide, (fun _ _ _ _ hz => hz), (Or.inr (Or.inl ⟨rfl, "DailyLie", am_inN 191 (by decide +kernel) rfl⟩)), tyX8_ok, nmX8, tyX8_ok 1 (by decide), rfl⟩
theorem fl_X11_194_7 : AF RX11 194 7 1 0 .int false := ⟨RX8, TX8, 16, "DailyLie$Town", tyX8, rfl, uw_X8, by decide, rfl, by decide, (fun _ _ _ _ hz => hz), (Or.inr (Or.inl ⟨rfl, "DailyLie", am_inN 192 (by decide +kernel) rfl⟩)), tyX8_ok, nmX8, tyX8_ok 1 (by decide), rfl⟩
theorem fl_X2_49_7 : AF RX2 49 7 2 0 .int false := ⟨RX8, TX8, 16, "DailyLie$Town", tyX8, rfl, uw_X8, by decide, rfl, by decide, (fun _ _ _ _ hz => hz), (Or.inr (Or.inl ⟨rfl, "DailyLie", am_inN 194 (by decide +kernel) rfl⟩)), tyX8_ok, nmX8, tyX8_ok 2 (by decide), rfl⟩
theorem fl_X6_32_7 : AF RX6 32 7 2 0 .int false := ⟨RX8, TX8, 16, "DailyLie$Town", tyX8, rfl, uw_X8, by decide, rfl, by decide, (fun _ _ _ _ hz => hz), (Or.inr (Or.inl ⟨rfl, "DailyLie", am_inN 195 (by decide +kernel) rfl⟩)), tyX8_ok, nmX8, tyX8_ok 2 (by decide), rfl⟩
theorem fl_X9_90_7 : AF RX9 90 7 2 0 .int false := ⟨RX8, TX8, 16, "DailyLie$Town", tyX8, rfl, uw_X8, by decide, rfl, by decide, (fun _ _ _ _ hz => hz), (Or.inr (Or.inl ⟨rfl, "DailyLie", am_inN 196 (by decide +kernel) rfl⟩)), tyX8_ok, nmX8, tyX8_ok 2 (by decide), rfl⟩
theorem fl_X11_197_7 : AF RX11 197 7 2 0 .int false := ⟨RX8, TX8, 16, "DailyLie$Town", tyX8, rfl, uw_X8, by decide, rfl, by decide, (fun _ _ _ _ hz => hz), (Or.inr (Or.inl ⟨rfl, "DailyLie", am_inN 197 (by decide +kernel) rfl⟩)), tyX8_ok, nmX8, tyX8_ok 2 (by decide), rfl⟩
theorem fl_X2_34_7 : AF RX2 34 7 3 0 .int false := ⟨RX8, TX8, 16, "DailyLie$Town", tyX8, rfl, uw_X8, by decide, rfl, by decide, (fun _ _ _ _ hz => hz), (Or.inr (Or.inl ⟨rfl, "DailyLie", am_inN 199 (by decide +kernel) rfl⟩)), tyX8_ok, nmX8, tyX8_ok 3 (by decide), rfl⟩
theorem fl_X9_45_7 : AF RX9 45 7 3 0 .int false := ⟨RX8, TX8, 16, "DailyLie$Town", tyX8, rfl, uw_X8, by decide, rfl, by decide, (fun _ _ _ _ hz => hz), (Or.inr (Or.inl ⟨rfl, "DailyLie", am_inN 200 (by decide +kernel) rfl⟩)), tyX8_ok, nmX8, tyX8_ok 3 (by decide), rfl⟩
theorem fl_X11_135_7 : AF RX11 135 7 3 0 .int false := ⟨RX8, TX8, 16, "DailyLie$Town", tyX8, rfl, uw_X8, by decide, rfl, by decide, (fun _ _ _ _ hz => hz), (Or.inr (Or.inl ⟨rfl, "DailyLie", am_inN 201 (by decide +kernel) rfl⟩)), tyX8_ok, nmX8, tyX8_ok 3 (by decide), rfl⟩
theorem fl_X2_42_7 : AF RX2 42 7 4 2 (.array .int) true := ⟨RX8, TX8, 16, "DailyLie$Town", tyX8, rfl, uw_X8, by decide, rfl, by decide, (fun _ _ _ _ hz => hz), (Or.inr (Or.inr ⟨rfl, "DailyLie", am_inN 203 (by decide +kernel) rfl⟩)), tyX8_ok, nmX8, tyX8_ok 4 (by decide), rfl⟩
theorem fl_X9_97_7 : AF RX9 97 7 4 2 (.array .int) true := ⟨RX8, TX8, 16, "DailyLie$Town", tyX8, rfl, uw_X8, by decide, rfl, by decide, (fun _ _ _ _ hz => hz), (Or.inr (Or.inr ⟨rfl, "DailyLie", am_inN 204 (by decide +kernel) rfl⟩)), tyX8_ok, nmX8, tyX8_ok 4 (by decide), rfl⟩
theorem fl_X6_53_7 : AF RX6 53 7 5 2 (.array .int) true := ⟨RX8, TX8, 16, "DailyLie$Town", tyX8, rfl, uw_X8, by decide, rfl, by decide, (fun _ _ _ _ hz => hz), (Or.inr (Or.inr ⟨rfl, "DailyLie", am_inN 206 (by decide +kernel) rfl⟩)), tyX8_ok, nmX8, tyX8_ok 5 (by decide), rfl⟩
theorem fl_X9_104_7 : AF RX9 104 7 5 2 (.array .int) true := ⟨RX8, TX8, 16, "DailyLie$Town", tyX8, rfl, uw_X8, by decide, rfl, by decide, (fun _ _ _ _ hz => hz), (Or.inr (Or.inr ⟨rfl, "DailyLie", am_inN 207 (by decide +kernel) rfl⟩)), tyX8_ok, nmX8, tyX8_ok 5 (by decide), rfl⟩
theorem fl_X2_90_7 : AF RX2 90 7 5 2 (.array .int) true := ⟨RX8, TX8, 16, "DailyLie$Town", tyX8, rfl, uw_X8, by decide, rfl, by decide, (fun _ _ _ _ hz => hz), (Or.inr (Or.inr ⟨rfl, "DailyLie", am_inN 208 (by decide +kernel) rfl⟩)), tyX8_ok, nmX8, tyX8_ok 5 (by decide), rfl⟩
theorem fl_X11_191_7 : AF RX11 191 7 5 2 (.array .int) true := ⟨RX8, TX8, 16, "DailyLie$Town", tyX8, rfl, uw_X8, by decide, rfl, by decide, (fun _ _ _ _ hz => hz), (Or.inr (Or.inr ⟨rfl, "DailyLie", am_inN 209 (by decide +kernel) rfl⟩)), tyX8_ok, nmX8, tyX8_ok 5 (by decide), rfl⟩
theorem fl_X9_49_7 : AF RX9 49 7 6 0 .int false := ⟨RX8, TX8, 16, "DailyLie$Town", tyX8, rfl, uw_X8, by decide, rfl, by decide, (fun _ _ _ _ hz => hz), (Or.inr (Or.inl ⟨rfl, "DailyLie", am_inN 211 (by decide +kernel) rfl⟩)), tyX8_ok, nmX8, tyX8_ok 6 (by decide), rfl⟩
theorem fl_X11_200_7 : AF RX11 200 7 6 0 .int false := ⟨RX8, TX8, 16, "DailyLie$Town", tyX8, rfl, uw_X8, by decide, rfl, by decide, (fun _ _ _ _ hz => hz), (Or.inr (Or.inl ⟨rfl, "DailyLie", am_inN 212 (by decide +kernel) rfl⟩)), tyX8_ok, nmX8, tyX8_ok 6 (by decide), rfl⟩
theorem fl_X11_406_7 : AF RX11 406 7 7 2 (.array .int) true := ⟨RX8, TX8, 16, "DailyLie$Town", tyX8, rfl, uw_X8, by decide, rfl, by decide, (fun _ _ _ _ hz => hz), (Or.inr (Or.inr ⟨rfl, "DailyLie", am_inN 214 (by decide +kernel) rfl⟩)), tyX8_ok, nmX8, tyX8_ok 7 (by decide), rfl⟩
theorem fl_X11_409_7 : AF RX11 409 7 8 2 (.array .int) true := ⟨RX8, TX8, 16, "DailyLie$Town", tyX8, rfl, uw_X8, by decide, rfl, by decide, (fun _ _ _ _ hz => hz), (Or.inr (Or.inr ⟨rfl, "DailyLie", am_inN 216 (by decide +kernel) rfl⟩)), tyX8_ok, nmX8, tyX8_ok 8 (by decide), rfl⟩
theorem fl_X11_177_7 : AF RX11 177 7 9 2 (.array .int) true := ⟨RX8, TX8, 16, "DailyLie$Town", tyX8, rfl, uw_X8, by decide, rfl, by decide, (fun _ _ _ _ hz => hz), (Or.inr (Or.inr ⟨rfl, "DailyLie", am_inN 218 (by decide +kernel) rfl⟩)), tyX8_ok, nmX8, tyX8_ok 9 (by decide), rfl⟩
theorem fl_X9_52_7 : AF RX9 52 7 10 0 .int false := ⟨RX8, TX8, 16, "DailyLie$Town", tyX8, rfl, uw_X8, by decide, rfl, by decide, (fun _ _ _ _ hz => hz), (Or.inr (Or.inl ⟨rfl, "DailyLie", am_inN 220 (by decide +kernel) rfl⟩)), tyX8_ok, nmX8, tyX8_ok 10 (by decide), rfl⟩
theorem fl_X9_55_7 : AF RX9 55 7 12 0 .int false := ⟨RX8, TX8, 16, "DailyLie$Town", tyX8, rfl, uw_X8, by decide, rfl, by decide, (fun _ _ _ _ hz => hz), (Or.inr (Or.inl ⟨rfl, "DailyLie", am_inN 223 (by decide +kernel) rfl⟩)), tyX8_ok, nmX8, tyX8_ok 12 (by decide), rfl⟩
theorem fl_X6_50_7 : AF RX6 50 7 14 0 .int false := ⟨RX8, TX8, 16, "DailyLie$Town", tyX8, rfl, uw_X8, by decide, rfl, by decide, (fun _ _ _ _ hz => hz), (Or.inr (Or.inl ⟨rfl, "DailyLie", am_inN 226 (by decide +kernel) rfl⟩)), tyX8_ok, nmX8, tyX8_ok 14 (by decide), rfl⟩
theorem fl_X11_180_7 : AF RX11 180 7 14 0 .int false := ⟨RX8, TX8, 16, "DailyLie$Town", tyX8, rfl, uw_X8, by decide, rfl, by decide, (fun _ _ _ _ hz => hz), (Or.inr (Or.inl ⟨rfl, "DailyLie", am_inN 227 (by decide +kernel) rfl⟩)), tyX8_ok, nmX8, tyX8_ok 14 (by decide), rfl⟩
theorem fl_X9_122_7 : AF RX9 122 7 14 0 .int false := ⟨RX8, TX8, 16, "DailyLie$Town", tyX8, rfl, uw_X8, by decide, rfl, by decide, (fun _ _ _ _ hz => hz), (Or.inr (Or.inl ⟨rfl, "DailyLie", am_inN 228 (by decide +kernel) rfl⟩)), tyX8_ok, nmX8, tyX8_ok 14 (by decide), rfl⟩
theorem fl_X9_58_7 : AF RX9 58 7 15 0 .boolean false := ⟨RX8, TX8, 16, "DailyLie$Town", tyX8, rfl, uw_X8, by decide, rfl, by decide, (fun _ _ _ _ hz => hz), (Or.inr (Or.inl ⟨rfl, "DailyLie", am_inN 230 (by decide +kernel) rfl⟩)), tyX8_ok, nmX8, tyX8_ok 15 (by decide), rfl⟩
theorem fl_X2_82_7 : AF RX2 82 7 15 0 .boolean false := ⟨RX8, TX8, 16, "DailyLie$Town", tyX8, rfl, uw_X8, by decide, rfl, by decide, (fun _ _ _ _ hz => hz), (Or.inr (Or.inl ⟨rfl, "DailyLie", am_inN 231 (by decide +kernel) rfl⟩)), tyX8_ok, nmX8, tyX8_ok 15 (by decide), rfl⟩
theorem fl_X11_158_1 : AF RX11 158 1 0 2 (.array .int) true := ⟨RX2, TX2, 8, "DailyLie$Life", tyX2, rfl, uw_X2, by decide, rfl, by decide, (fun _ _ _ _ hz => hz), (Or.inr (Or.inr ⟨rfl, "DailyLie", am_inN 282 (by decide +kernel) rfl⟩)), tyX2_ok, nmX2, tyX2_ok 0 (by decide), rfl⟩
theorem fl_X11_161_1 : AF RX11 161 1 1 2 (.array .int) true := ⟨RX2, TX2, 8, "DailyLie$Life", tyX2, rfl, uw_X2, by decide, rfl, by decide, (fun _ _ _ _ hz => hz), (Or.inr (Or.inr ⟨rfl, "DailyLie", am_inN 284 (by decide +kernel) rfl⟩)), tyX2_ok, nmX2, tyX2_ok 1 (by decide), rfl⟩
theorem fl_X6_41_1 : AF RX6 41 1 2 2 (.array .int) true := ⟨RX2, TX2, 8, "DailyLie$Life", tyX2, rfl, uw_X2, by decide, rfl, by decide, (fun _ _ _ _ hz => hz), (Or.inr (Or.inr ⟨rfl, "DailyLie", am_inN 286 (by decide +kernel) rfl⟩)), tyX2_ok, nmX2, tyX2_ok 2 (by decide), rfl⟩
theorem fl_X11_164_1 : AF RX11 164 1 2 2 (.array .int) true := ⟨RX2, TX2, 8, "DailyLie$Life", tyX2, rfl, uw_X2, by decide, rfl, by decide, (fun _ _ _ _ hz => hz), (Or.inr (Or.inr ⟨rfl, "DailyLie", am_inN 287 (by decide +kernel) rfl⟩)), tyX2_ok, nmX2, tyX2_ok 2 (by decide), rfl⟩
theorem fl_X6_47_1 : AF RX6 47 1 3 2 (.array .int) true := ⟨RX2, TX2, 8, "DailyLie$Life", tyX2, rfl, uw_X2, by decide, rfl, by decide, (fun _ _ _ _ hz => hz), (Or.inr (Or.inr ⟨rfl, "DailyLie", am_inN 289 (by decide +kernel) rfl⟩)), tyX2_ok, nmX2, tyX2_ok 3 (by decide), rfl⟩
theorem fl_X11_167_1 : AF RX11 167 1 3 2 (.array .int) true := ⟨RX2, TX2, 8, "DailyLie$Life", tyX2, rfl, uw_X2, by decide, rfl, by decide, (fun _ _ _ _ hz => hz), (Or.inr (Or.inr ⟨rfl, "DailyLie", am_inN 290 (by decide +kernel) rfl⟩)), tyX2_ok, nmX2, tyX2_ok 3 (by decide), rfl⟩
theorem fl_X6_65_1 : AF RX6 65 1 4 0 .int false := ⟨RX2, TX2, 8, "DailyLie$Life", tyX2, rfl, uw_X2, by decide, rfl, by decide, (fun _ _ _ _ hz => hz), (Or.inr (Or.inl ⟨rfl, "DailyLie", am_inN 292 (by decide +kernel) rfl⟩)), tyX2_ok, nmX2, tyX2_ok 4 (by decide), rfl⟩
theorem fl_X11_203_1 : AF RX11 203 1 4 0 .int false := ⟨RX2, TX2, 8, "DailyLie$Life", tyX2, rfl, uw_X2, by decide, rfl, by decide, (fun _ _ _ _ hz => hz), (Or.inr (Or.inl ⟨rfl, "DailyLie", am_inN 293 (by decide +kernel) rfl⟩)), tyX2_ok, nmX2, tyX2_ok 4 (by decide), rfl⟩
theorem fl_X6_62_1 : AF RX6 62 1 5 0 .int false := ⟨RX2, TX2, 8, "DailyLie$Life", tyX2, rfl, uw_X2, by decide, rfl, by decide, (fun _ _ _ _ hz => hz), (Or.inr (Or.inl ⟨rfl, "DailyLie", am_inN 295 (by decide +kernel) rfl⟩)), tyX2_ok, nmX2, tyX2_ok 5 (by decide), rfl⟩
theorem fl_X11_206_1 : AF RX11 206 1 5 0 .int false := ⟨RX2, TX2, 8, "DailyLie$Life", tyX2, rfl, uw_X2, by decide, rfl, by decide, (fun _ _ _ _ hz => hz), (Or.inr (Or.inl ⟨rfl, "DailyLie", am_inN 296 (by decide +kernel) rfl⟩)), tyX2_ok, nmX2, tyX2_ok 5 (by decide), rfl⟩
theorem fl_X11_320_1 : AF RX11 320 1 6 0 .int false := ⟨RX2, TX2, 8, "DailyLie$Life", tyX2, rfl, uw_X2, by decide, rfl, by decide, (fun _ _ _ _ hz => hz), (Or.inr (Or.inl ⟨rfl, "DailyLie", am_inN 298 (by decide +kernel) rfl⟩)), tyX2_ok, nmX2, tyX2_ok 6 (by decide), rfl⟩
theorem fl_X11_317_1 : AF RX11 317 1 7 0 .int false := ⟨RX2, TX2, 8, "DailyLie$Life", tyX2, rfl, uw_X2, by decide, rfl, by decide, (fun _ _ _ _ hz => hz), (Or.inr (Or.inl ⟨rfl, "DailyLie", am_inN 300 (by decide +kernel) rfl⟩)), tyX2_ok, nmX2, tyX2_ok 7 (by decide), rfl⟩
theorem fl_X11_57_4 : AF RX11 57 4 0 2 (.object "DailyLie$Town") true := ⟨RX5, TX5, 9, "DailyLie$Situation", tyX5, rfl, uw_X5, by decide, rfl, by decide, (fun _ _ _ _ hz => hz), (Or.inr (Or.inr ⟨rfl, "DailyLie", am_inN 319 (by decide +kernel) rfl⟩)), tyX5_ok, nmX5, tyX5_ok 0 (by decide), rfl⟩
theorem fl_X10_15_4 : AF RX10 15 4 0 2 (.object "DailyLie$Town") true := ⟨RX5, TX5, 9, "DailyLie$Situation", tyX5, rfl, uw_X5, by decide, rfl, by decide, (fun _ _ _ _ hz => hz), (Or.inr (Or.inr ⟨rfl, "DailyLie", am_inN 320 (by decide +kernel) rfl⟩)), tyX5_ok, nmX5, tyX5_ok 0 (by decide), rfl⟩
theorem fl_X11_60_4 : AF RX11 60 4 1 2 (.object "DailyLie$Life") true := ⟨RX5, TX5, 9, "DailyLie$Situation", tyX5, rfl, uw_X5, by decide, rfl, by decide, (fun _ _ _ _ hz => hz), (Or.inr (Or.inr ⟨rfl, "DailyLie", am_inN 322 (by decide +kernel) rfl⟩)), tyX5_ok, nmX5, tyX5_ok 1 (by decide), rfl⟩
theorem fl_X11_149_4 : AF RX11 149 4 2 0 .int false := ⟨RX5, TX5, 9, "DailyLie$Situation", tyX5, rfl, uw_X5, by decide, rfl, by decide, (fun _ _ _ _ hz => hz), (Or.inr (Or.inl ⟨rfl, "DailyLie", am_inN 324 (by decide +kernel) rfl⟩)), tyX5_ok, nmX5, tyX5_ok 2 (by decide), rfl⟩
theorem fl_X11_226_4 : AF RX11 226 4 3 0 .int false := ⟨RX5, TX5, 9, "DailyLie$Situation", tyX5, rfl, uw_X5, by decide, rfl, by decide, (fun _ _ _ _ hz => hz), (Or.inr (Or.inl ⟨rfl, "DailyLie", am_inN 326 (by decide +kernel) rfl⟩)), tyX5_ok, nmX5, tyX5_ok 3 (by decide), rfl⟩
theorem fl_X10_52_4 : AF RX10 52 4 4 0 .int false := ⟨RX5, TX5, 9, "DailyLie$Situation", tyX5, rfl, uw_X5, by decide, rfl, by decide, (fun _ _ _ _ hz => hz), (Or.inr (Or.inl ⟨rfl, "DailyLie", am_inN 328 (by decide +kernel) rfl⟩)), tyX5_ok, nmX5, tyX5_ok 4 (by decide), rfl⟩
theorem fl_X11_217_4 : AF RX11 217 4 4 0 .int false := ⟨RX5, TX5, 9, "DailyLie$Situation", tyX5, rfl, uw_X5, by decide, rfl, by decide, (fun _ _ _ _ hz => hz), (Or.inr (Or.inl ⟨rfl, "DailyLie", am_inN 329 (by decide +kernel) rfl⟩)), tyX5_ok, nmX5, tyX5_ok 4 (by decide), rfl⟩
theorem fl_X10_55_4 : AF RX10 55 4 5 2 (.array .int) true := ⟨RX5, TX5, 9, "DailyLie$Situation", tyX5, rfl, uw_X5, by decide, rfl, by decide, (fun _ _ _ _ hz => hz), (Or.inr (Or.inr ⟨rfl, "DailyLie", am_inN 331 (by decide +kernel) rfl⟩)), tyX5_ok, nmX5, tyX5_ok 5 (by decide), rfl⟩
theorem fl_X11_220_4 : AF RX11 220 4 6 0 .int false := ⟨RX5, TX5, 9, "DailyLie$Situation", tyX5, rfl, uw_X5, by decide, rfl, by decide, (fun _ _ _ _ hz => hz), (Or.inr (Or.inl ⟨rfl, "DailyLie", am_inN 333 (by decide +kernel) rfl⟩)), tyX5_ok, nmX5, tyX5_ok 6 (by decide), rfl⟩
theorem fl_X11_223_0 : AF RX11 223 0 2 0 .int false := ⟨RX0, TX0, 3, "DailyLie$Acts", tyX0, rfl, uw_X0, by decide, rfl, by decide, (fun _ _ _ _ hz => hz), (Or.inr (Or.inl ⟨rfl, "DailyLie", am_inN 368 (by decide +kernel) rfl⟩)), tyX0_ok, nmX0, tyX0_ok 2 (by decide), rfl⟩
theorem fl_X2_93_5 : AF RX2 93 5 0 2 (.object "DailyLie$Town") true := ⟨RX6, TX6, 7, "DailyLie$Talk", tyX6, rfl, uw_X6, by decide, rfl, by decide, (fun _ _ _ _ hz => hz), (Or.inr (Or.inr ⟨rfl, "DailyLie", am_inN 384 (by decide +kernel) rfl⟩)), tyX6_ok, nmX6, tyX6_ok 0 (by decide), rfl⟩
theorem fl_X11_287_5 : AF RX11 287 5 1 2 (.object "DailyLie$Life") false := ⟨RX6, TX6, 7, "DailyLie$Talk", tyX6, rfl, uw_X6, by decide, rfl, by decide, (fun _ _ _ _ hz => hz), (Or.inr (Or.inl ⟨rfl, "DailyLie", am_inN 386 (by decide +kernel) rfl⟩)), tyX6_ok, nmX6, tyX6_ok 1 (by decide), rfl⟩
theorem fl_X2_99_5 : AF RX2 99 5 2 0 .int false := ⟨RX6, TX6, 7, "DailyLie$Talk", tyX6, rfl, uw_X6, by decide, rfl, by decide, (fun _ _ _ _ hz => hz), (Or.inr (Or.inl ⟨rfl, "DailyLie", am_inN 388 (by decide +kernel) rfl⟩)), tyX6_ok, nmX6, tyX6_ok 2 (by decide), rfl⟩
theorem fl_X11_288_5 : AF RX11 288 5 2 0 .int false := ⟨RX6, TX6, 7, "DailyLie$Talk", tyX6, rfl, uw_X6, by decide, rfl, by decide, (fun _ _ _ _ hz => hz), (Or.inr (Or.inl ⟨rfl, "DailyLie", am_inN 389 (by decide +kernel) rfl⟩)), tyX6_ok, nmX6, tyX6_ok 2 (by decide), rfl⟩
theorem fl_X2_102_5 : AF RX2 102 5 3 0 .int false := ⟨RX6, TX6, 7, "DailyLie$Talk", tyX6, rfl, uw_X6, by decide, rfl, by decide, (fun _ _ _ _ hz => hz), (Or.inr (Or.inl ⟨rfl, "DailyLie", am_inN 391 (by decide +kernel) rfl⟩)), tyX6_ok, nmX6, tyX6_ok 3 (by decide), rfl⟩
theorem fl_X11_291_5 : AF RX11 291 5 3 0 .int false := ⟨RX6, TX6, 7, "DailyLie$Talk", tyX6, rfl, uw_X6, by decide, rfl, by decide, (fun _ _ _ _ hz => hz), (Or.inr (Or.inl ⟨rfl, "DailyLie", am_inN 392 (by decide +kernel) rfl⟩)), tyX6_ok, nmX6, tyX6_ok 3 (by decide), rfl⟩
theorem fl_X2_105_5 : AF RX2 105 5 4 0 .int false := ⟨RX6, TX6, 7, "DailyLie$Talk", tyX6, rfl, uw_X6, by decide, rfl, by decide, (fun _ _ _ _ hz => hz), (Or.inr (Or.inl ⟨rfl, "DailyLie", am_inN 394 (by decide +kernel) rfl⟩)), tyX6_ok, nmX6, tyX6_ok 4 (by decide), rfl⟩
theorem fl_X11_294_5 : AF RX11 294 5 4 0 .int false := ⟨RX6, TX6, 7, "DailyLie$Talk", tyX6, rfl, uw_X6, by decide, rfl, by decide, (fun _ _ _ _ hz => hz), (Or.inr (Or.inl ⟨rfl, "DailyLie", am_inN 395 (by decide +kernel) rfl⟩)), tyX6_ok, nmX6, tyX6_ok 4 (by decide), rfl⟩
theorem fl_X2_112_5 : AF RX2 112 5 5 0 .int false := ⟨RX6, TX6, 7, "DailyLie$Talk", tyX6, rfl, uw_X6, by decide, rfl, by decide, (fun _ _ _ _ hz => hz), (Or.inr (Or.inl ⟨rfl, "DailyLie", am_inN 397 (by decide +kernel) rfl⟩)), tyX6_ok, nmX6, tyX6_ok 5 (by decide), rfl⟩
theorem fl_X11_297_5 : AF RX11 297 5 5 0 .int false := ⟨RX6, TX6, 7, "DailyLie$Talk", tyX6, rfl, uw_X6, by decide, rfl, by decide, (fun _ _ _ _ hz => hz), (Or.inr (Or.inl ⟨rfl, "DailyLie", am_inN 398 (by decide +kernel) rfl⟩)), tyX6_ok, nmX6, tyX6_ok 5 (by decide), rfl⟩
theorem fl_X11_300_5 : AF RX11 300 5 6 0 .int false := ⟨RX6, TX6, 7, "DailyLie$Talk", tyX6, rfl, uw_X6, by decide, rfl, by decide, (fun _ _ _ _ hz => hz), (Or.inr (Or.inl ⟨rfl, "DailyLie", am_inN 400 (by decide +kernel) rfl⟩)), tyX6_ok, nmX6, tyX6_ok 6 (by decide), rfl⟩
theorem fl_X11_366_9 : AF RX11 366 9 0 0 .int false := ⟨RX10, TX10, 6, "DailyLie$Truths", tyX10, rfl, uw_X10, by decide, rfl, by decide, (fun _ _ _ _ hz => hz), (Or.inr (Or.inl ⟨rfl, "DailyLie", am_inN 423 (by decide +kernel) rfl⟩)), tyX10_ok, nmX10, tyX10_ok 0 (by decide), rfl⟩
theorem fl_X11_369_9 : AF RX11 369 9 1 0 .int false := ⟨RX10, TX10, 6, "DailyLie$Truths", tyX10, rfl, uw_X10, by decide, rfl, by decide, (fun _ _ _ _ hz => hz), (Or.inr (Or.inl ⟨rfl, "DailyLie", am_inN 425 (by decide +kernel) rfl⟩)), tyX10_ok, nmX10, tyX10_ok 1 (by decide), rfl⟩
theorem fl_X11_372_9 : AF RX11 372 9 2 0 .int false := ⟨RX10, TX10, 6, "DailyLie$Truths", tyX10, rfl, uw_X10, by decide, rfl, by decide, (fun _ _ _ _ hz => hz), (Or.inr (Or.inl ⟨rfl, "DailyLie", am_inN 427 (by decide +kernel) rfl⟩)), tyX10_ok, nmX10, tyX10_ok 2 (by decide), rfl⟩
theorem fl_X11_375_9 : AF RX11 375 9 3 0 .int false := ⟨RX10, TX10, 6, "DailyLie$Truths", tyX10, rfl, uw_X10, by decide, rfl, by decide, (fun _ _ _ _ hz => hz), (Or.inr (Or.inl ⟨rfl, "DailyLie", am_inN 429 (by decide +kernel) rfl⟩)), tyX10_ok, nmX10, tyX10_ok 3 (by decide), rfl⟩
theorem fl_X11_378_9 : AF RX11 378 9 4 0 .int false := ⟨RX10, TX10, 6, "DailyLie$Truths", tyX10, rfl, uw_X10, by decide, rfl, by decide, (fun _ _ _ _ hz => hz), (Or.inr (Or.inl ⟨rfl, "DailyLie", am_inN 431 (by decide +kernel) rfl⟩)), tyX10_ok, nmX10, tyX10_ok 4 (by decide), rfl⟩
theorem fl_X4_42_2 : AF RX4 42 2 3 0 .int false := ⟨RX3, TX3, 10, "DailyLie$Rule", tyX3, rfl, uw_X3, by decide, rfl, by decide, (fun _ _ _ _ hz => hz), (Or.inr (Or.inl ⟨rfl, "DailyLie", am_inN 457 (by decide +kernel) rfl⟩)), tyX3_ok, nmX3, tyX3_ok 3 (by decide), rfl⟩
theorem fl_X11_310_2 : AF RX11 310 2 9 0 .boolean false := ⟨RX3, TX3, 10, "DailyLie$Rule", tyX3, rfl, uw_X3, by decide, rfl, by decide, (fun _ _ _ _ hz => hz), (Or.inr (Or.inl ⟨rfl, "DailyLie", am_inN 464 (by decide +kernel) rfl⟩)), tyX3_ok, nmX3, tyX3_ok 9 (by decide), rfl⟩
theorem yc_X0_init : AYc yX0_init cX0_init 2 none 0 := ⟨am_in 127 (by decide +kernel) rfl, am_in 360 (by decide +kernel) rfl, ⟨by decide +kernel, by decide +kernel, by decide +kernel⟩, by decide⟩
theorem yi_X0_init : Cond.instanceMethod yX0_init ∈ am_tbl := am_in 359 (by decide +kernel) rfl
theorem yc_X0_forget : AYc yX0_forget cX0_forget 1 none 0 := ⟨am_in 127 (by decide +kernel) rfl, am_in 890 (by decide +kernel) rfl, ⟨by decide +kernel, by decide +kernel, by decide +kernel⟩, by decide⟩
theorem yv_X0_forget : AYv yX0_forget 0 := ⟨am_in 888 (by decide +kernel) rfl, am_in 889 (by decide +kernel) rfl, _, rfl, rfl, by decide⟩
theorem yc_X0_keep : AYc yX0_keep cX0_keep 2 none 1 := ⟨am_in 127 (by decide +kernel) rfl, am_in 969 (by decide +kernel) rfl, ⟨by decide +kernel, by decide +kernel, by decide +kernel⟩, by decide⟩
theorem yv_X0_keep : AYv yX0_keep 0 := ⟨am_in 967 (by decide +kernel) rfl, am_in 968 (by decide +kernel) rfl, _, rfl, rfl, by decide⟩
theorem yc_X0_takeBack : AYc yX0_takeBack cX0_takeBack 2 none 1 := ⟨am_in 127 (by decide +kernel) rfl, am_in 1063 (by decide +kernel) rfl, ⟨by decide +kernel, by decide +kernel, by decide +kernel⟩, by decide⟩
theorem yv_X0_takeBack : AYv yX0_takeBack 0 := ⟨am_in 1061 (by decide +kernel) rfl, am_in 1062 (by decide +kernel) rfl, _, rfl, rfl, by decide⟩
theorem yc_X1_init : AYc yX1_init cX1_init 2 none 1 := ⟨am_in 131 (by decide +kernel) rfl, am_in 494 (by decide +kernel) rfl, ⟨by decide +kernel, by decide +kernel, by decide +kernel⟩, by decide⟩
theorem yi_X1_init : Cond.instanceMethod yX1_init ∈ am_tbl := am_in 493 (by decide +kernel) rfl
theorem yc_X1_readClauses : AYc yX1_readClauses cX1_readClauses 3 (some .int) 1 := ⟨am_in 131 (by decide +kernel) rfl, am_in 687 (by decide +kernel) rfl, ⟨by decide +kernel, by decide +kernel, by decide +kernel⟩, by decide⟩
theorem yc_X2_init : AYc yX2_init cX2_init 1 none 0 := ⟨am_in 126 (by decide +kernel) rfl, am_in 279 (by decide +kernel) rfl, ⟨by decide +kernel, by decide +kernel, by decide +kernel⟩, by decide⟩
theorem yi_X2_init : Cond.instanceMethod yX2_init ∈ am_tbl := am_in 278 (by decide +kernel) rfl
theorem yc_X2_begin : AYc yX2_begin cX2_begin 4 none 1 := ⟨am_in 126 (by decide +kernel) rfl, am_in 863 (by decide +kernel) rfl, ⟨by decide +kernel, by decide +kernel, by decide +kernel⟩, by decide⟩
theorem yv_X2_begin : AYv yX2_begin 1 := ⟨am_in 861 (by decide +kernel) rfl, am_in 862 (by decide +kernel) rfl, _, rfl, rfl, by decide⟩
theorem yc_X2_copyFrom : AYc yX2_copyFrom cX2_copyFrom 2 none 1 := ⟨am_in 126 (by decide +kernel) rfl, am_in 973 (by decide +kernel) rfl, ⟨by decide +kernel, by decide +kernel, by decide +kernel⟩, by decide⟩
theorem yv_X2_copyFrom : AYv yX2_copyFrom 1 := ⟨am_in 971 (by decide +kernel) rfl, am_in 972 (by decide +kernel) rfl, _, rfl, rfl, by decide⟩
theorem yc_X2_conclude : AYc yX2_conclude cX2_conclude 3 none 2 := ⟨am_in 126 (by decide +kernel) rfl, am_in 869 (by decide +kernel) rfl, ⟨by decide +kernel, by decide +kernel, by decide +kernel⟩, by decide⟩
theorem yv_X2_conclude : AYv yX2_conclude 1 := ⟨am_in 868 (by decide +kernel) rfl, am_in 19 (by decide +kernel) rfl, _, rfl, rfl, by decide⟩
theorem yc_X2_forgetLies : AYc yX2_forgetLies cX2_forgetLies 1 none 0 := ⟨am_in 126 (by decide +kernel) rfl, am_in 882 (by decide +kernel) rfl, ⟨by decide +kernel, by decide +kernel, by decide +kernel⟩, by decide⟩
theorem yv_X2_forgetLies : AYv yX2_forgetLies 1 := ⟨am_in 881 (by decide +kernel) rfl, am_in 21 (by decide +kernel) rfl, _, rfl, rfl, by decide⟩
theorem yc_X2_beginDay : AYc yX2_beginDay cX2_beginDay 2 none 1 := ⟨am_in 126 (by decide +kernel) rfl, am_in 1050 (by decide +kernel) rfl, ⟨by decide +kernel, by decide +kernel, by decide +kernel⟩, by decide⟩
theorem yv_X2_beginDay : AYv yX2_beginDay 1 := ⟨am_in 1048 (by decide +kernel) rfl, am_in 1049 (by decide +kernel) rfl, _, rfl, rfl, by decide⟩
theorem yc_X2_correctAll : AYc yX2_correctAll cX2_correctAll 5 none 1 := ⟨am_in 126 (by decide +kernel) rfl, am_in 1055 (by decide +kernel) rfl, ⟨by decide +kernel, by decide +kernel, by decide +kernel⟩, by decide⟩
theorem yv_X2_correctAll : AYv yX2_correctAll 1 := ⟨am_in 1054 (by decide +kernel) rfl, am_in 29 (by decide +kernel) rfl, _, rfl, rfl, by decide⟩
theorem yc_X2_countLie : AYc yX2_countLie cX2_countLie 2 none 1 := ⟨am_in 126 (by decide +kernel) rfl, am_in 1012 (by decide +kernel) rfl, ⟨by decide +kernel, by decide +kernel, by decide +kernel⟩, by decide⟩
theorem yv_X2_countLie : AYv yX2_countLie 1 := ⟨am_in 1010 (by decide +kernel) rfl, am_in 1011 (by decide +kernel) rfl, _, rfl, rfl, by decide⟩
theorem yc_X2_accepts : AYc yX2_accepts cX2_accepts 6 (some .boolean) 4 := ⟨am_in 126 (by decide +kernel) rfl, am_in 1020 (by decide +kernel) rfl, ⟨by decide +kernel, by decide +kernel, by decide +kernel⟩, by decide⟩
theorem yv_X2_accepts : AYv yX2_accepts 1 := ⟨am_in 1018 (by decide +kernel) rfl, am_in 1019 (by decide +kernel) rfl, _, rfl, rfl, by decide⟩
theorem yc_X2_hear : AYc yX2_hear cX2_hear 3 none 1 := ⟨am_in 126 (by decide +kernel) rfl, am_in 1016 (by decide +kernel) rfl, ⟨by decide +kernel, by decide +kernel, by decide +kernel⟩, by decide⟩
theorem yv_X2_hear : AYv yX2_hear 1 := ⟨am_in 1014 (by decide +kernel) rfl, am_in 1015 (by decide +kernel) rfl, _, rfl, rfl, by decide⟩
theorem yc_X2_liesOfDay : AYc yX2_liesOfDay cX2_liesOfDay 3 (some .int) 0 := ⟨am_in 126 (by decide +kernel) rfl, am_in 948 (by decide +kernel) rfl, ⟨by decide +kernel, by decide +kernel, by decide +kernel⟩, by decide⟩
theorem yv_X2_liesOfDay : AYv yX2_liesOfDay 1 := ⟨am_in 946 (by decide +kernel) rfl, am_in 947 (by decide +kernel) rfl, _, rfl, rfl, by decide⟩
theorem yc_X2_liedToOnce : AYc yX2_liedToOnce cX2_liedToOnce 3 (some .int) 0 := ⟨am_in 126 (by decide +kernel) rfl, am_in 1213 (by decide +kernel) rfl, ⟨by decide +kernel, by decide +kernel, by decide +kernel⟩, by decide⟩
theorem yv_X2_liedToOnce : AYv yX2_liedToOnce 1 := ⟨am_in 1211 (by decide +kernel) rfl, am_in 1212 (by decide +kernel) rfl, _, rfl, rfl, by decide⟩
theorem yc_X2_harmOfAll : AYc yX2_harmOfAll cX2_harmOfAll 4 (some .int) 1 := ⟨am_in 126 (by decide +kernel) rfl, am_in 952 (by decide +kernel) rfl, ⟨by decide +kernel, by decide +kernel, by decide +kernel⟩, by decide⟩
theorem yv_X2_harmOfAll : AYv yX2_harmOfAll 1 := ⟨am_in 950 (by decide +kernel) rfl, am_in 951 (by decide +kernel) rfl, _, rfl, rfl, by decide⟩
theorem yc_X3_init : AYc yX3_init cX3_init 2 none 1 := ⟨am_in 130 (by decide +kernel) rfl, am_in 451 (by decide +kernel) rfl, ⟨by decide +kernel, by decide +kernel, by decide +kernel⟩, by decide⟩
theorem yi_X3_init : Cond.instanceMethod yX3_init ∈ am_tbl := am_in 450 (by decide +kernel) rfl
theorem yc_X3_clear : AYc yX3_clear cX3_clear 1 none 0 := ⟨am_in 130 (by decide +kernel) rfl, am_in 902 (by decide +kernel) rfl, ⟨by decide +kernel, by decide +kernel, by decide +kernel⟩, by decide⟩
theorem yv_X3_clear : AYv yX3_clear 2 := ⟨am_in 900 (by decide +kernel) rfl, am_in 901 (by decide +kernel) rfl, _, rfl, rfl, by decide⟩
theorem yc_X3_addStep : AYc yX3_addStep cX3_addStep 3 none 2 := ⟨am_in 130 (by decide +kernel) rfl, am_in 732 (by decide +kernel) rfl, ⟨by decide +kernel, by decide +kernel, by decide +kernel⟩, by decide⟩
theorem yv_X3_addStep : AYv yX3_addStep 2 := ⟨am_in 730 (by decide +kernel) rfl, am_in 731 (by decide +kernel) rfl, _, rfl, rfl, by decide⟩
theorem yc_X3_addClause : AYc yX3_addClause cX3_addClause 4 none 3 := ⟨am_in 130 (by decide +kernel) rfl, am_in 763 (by decide +kernel) rfl, ⟨by decide +kernel, by decide +kernel, by decide +kernel⟩, by decide⟩
theorem yv_X3_addClause : AYv yX3_addClause 2 := ⟨am_in 761 (by decide +kernel) rfl, am_in 762 (by decide +kernel) rfl, _, rfl, rfl, by decide⟩
theorem yc_X3_findsLie : AYc yX3_findsLie cX3_findsLie 3 (some .boolean) 1 := ⟨am_in 130 (by decide +kernel) rfl, am_in 989 (by decide +kernel) rfl, ⟨by decide +kernel, by decide +kernel, by decide +kernel⟩, by decide⟩
theorem yv_X3_findsLie : AYv yX3_findsLie 2 := ⟨am_in 987 (by decide +kernel) rfl, am_in 988 (by decide +kernel) rfl, _, rfl, rfl, by decide⟩
theorem yc_X3_scoreOf : AYc yX3_scoreOf cX3_scoreOf 4 (some .long) 1 := ⟨am_in 130 (by decide +kernel) rfl, am_in 1079 (by decide +kernel) rfl, ⟨by decide +kernel, by decide +kernel, by decide +kernel⟩, by decide⟩
theorem yv_X3_scoreOf : AYv yX3_scoreOf 2 := ⟨am_in 1077 (by decide +kernel) rfl, am_in 1078 (by decide +kernel) rfl, _, rfl, rfl, by decide⟩
theorem yc_X3_work : AYc yX3_work cX3_work 7 (some .long) 3 := ⟨am_in 130 (by decide +kernel) rfl, am_in 993 (by decide +kernel) rfl, ⟨by decide +kernel, by decide +kernel, by decide +kernel⟩, by decide⟩
theorem yv_X3_work : AYv yX3_work 2 := ⟨am_in 992 (by decide +kernel) rfl, am_in 27 (by decide +kernel) rfl, _, rfl, rfl, by decide⟩
theorem yc_X3_combine : AYc yX3_combine cX3_combine 5 (some .long) 3 := ⟨am_in 130 (by decide +kernel) rfl, am_in 1005 (by decide +kernel) rfl, ⟨by decide +kernel, by decide +kernel, by decide +kernel⟩, by decide⟩
theorem ys_X3_combine : Cond.static yX3_combine ∈ am_tbl := am_in 1004 (by decide +kernel) rfl
theorem yc_X3_compare : AYc yX3_compare cX3_compare 5 (some .boolean) 3 := ⟨am_in 130 (by decide +kernel) rfl, am_in 1008 (by decide +kernel) rfl, ⟨by decide +kernel, by decide +kernel, by decide +kernel⟩, by decide⟩
theorem ys_X3_compare : Cond.static yX3_compare ∈ am_tbl := am_in 1007 (by decide +kernel) rfl
theorem yc_X4_init : AYc yX4_init cX4_init 3 none 2 := ⟨am_in 133 (by decide +kernel) rfl, am_in 511 (by decide +kernel) rfl, ⟨by decide +kernel, by decide +kernel, by decide +kernel⟩, by decide⟩
theorem yi_X4_init : Cond.instanceMethod yX4_init ∈ am_tbl := am_in 510 (by decide +kernel) rfl
theorem yc_X4_begin : AYc yX4_begin cX4_begin 2 none 1 := ⟨am_in 133 (by decide +kernel) rfl, am_in 898 (by decide +kernel) rfl, ⟨by decide +kernel, by decide +kernel, by decide +kernel⟩, by decide⟩
theorem yv_X4_begin : AYv yX4_begin 3 := ⟨am_in 896 (by decide +kernel) rfl, am_in 897 (by decide +kernel) rfl, _, rfl, rfl, by decide⟩
theorem yc_X4_readClause : AYc yX4_readClause cX4_readClause 5 none 1 := ⟨am_in 133 (by decide +kernel) rfl, am_in 693 (by decide +kernel) rfl, ⟨by decide +kernel, by decide +kernel, by decide +kernel⟩, by decide⟩
theorem yc_X4_readTest : AYc yX4_readTest cX4_readTest 5 none 1 := ⟨am_in 133 (by decide +kernel) rfl, am_in 740 (by decide +kernel) rfl, ⟨by decide +kernel, by decide +kernel, by decide +kernel⟩, by decide⟩
theorem yv_X4_readTest : AYv yX4_readTest 3 := ⟨am_in 739 (by decide +kernel) rfl, am_in 6 (by decide +kernel) rfl, _, rfl, rfl, by decide⟩
theorem yc_X4_isJoint : AYc yX4_isJoint cX4_isJoint 1 (some .boolean) 1 := ⟨am_in 133 (by decide +kernel) rfl, am_in 759 (by decide +kernel) rfl, ⟨by decide +kernel, by decide +kernel, by decide +kernel⟩, by decide⟩
theorem ys_X4_isJoint : Cond.static yX4_isJoint ∈ am_tbl := am_in 758 (by decide +kernel) rfl
theorem yc_X4_readFact : AYc yX4_readFact cX4_readFact 5 none 1 := ⟨am_in 133 (by decide +kernel) rfl, am_in 744 (by decide +kernel) rfl, ⟨by decide +kernel, by decide +kernel, by decide +kernel⟩, by decide⟩
theorem yv_X4_readFact : AYv yX4_readFact 3 := ⟨am_in 743 (by decide +kernel) rfl, am_in 7 (by decide +kernel) rfl, _, rfl, rfl, by decide⟩
theorem yc_X4_readClosing : AYc yX4_readClosing cX4_readClosing 1 none 0 := ⟨am_in 133 (by decide +kernel) rfl, am_in 752 (by decide +kernel) rfl, ⟨by decide +kernel, by decide +kernel, by decide +kernel⟩, by decide⟩
theorem yv_X4_readClosing : AYv yX4_readClosing 3 := ⟨am_in 751 (by decide +kernel) rfl, am_in 8 (by decide +kernel) rfl, _, rfl, rfl, by decide⟩
theorem yc_X4_readSign : AYc yX4_readSign cX4_readSign 2 (some .int) 0 := ⟨am_in 133 (by decide +kernel) rfl, am_in 756 (by decide +kernel) rfl, ⟨by decide +kernel, by decide +kernel, by decide +kernel⟩, by decide⟩
theorem yv_X4_readSign : AYv yX4_readSign 3 := ⟨am_in 755 (by decide +kernel) rfl, am_in 9 (by decide +kernel) rfl, _, rfl, rfl, by decide⟩
theorem yc_X4_readSum : AYc yX4_readSum cX4_readSum 5 none 0 := ⟨am_in 133 (by decide +kernel) rfl, am_in 709 (by decide +kernel) rfl, ⟨by decide +kernel, by decide +kernel, by decide +kernel⟩, by decide⟩
theorem yv_X4_readSum : AYv yX4_readSum 3 := ⟨am_in 708 (by decide +kernel) rfl, am_in 3 (by decide +kernel) rfl, _, rfl, rfl, by decide⟩
theorem yc_X4_arithmeticStep : AYc yX4_arithmeticStep cX4_arithmeticStep 1 (some .int) 0 := ⟨am_in 133 (by decide +kernel) rfl, am_in 736 (by decide +kernel) rfl, ⟨by decide +kernel, by decide +kernel, by decide +kernel⟩, by decide⟩
theorem yv_X4_arithmeticStep : AYv yX4_arithmeticStep 3 := ⟨am_in 735 (by decide +kernel) rfl, am_in 5 (by decide +kernel) rfl, _, rfl, rfl, by decide⟩
theorem yc_X4_readValue : AYc yX4_readValue cX4_readValue 2 none 0 := ⟨am_in 133 (by decide +kernel) rfl, am_in 713 (by decide +kernel) rfl, ⟨by decide +kernel, by decide +kernel, by decide +kernel⟩, by decide⟩
theorem yv_X4_readValue : AYv yX4_readValue 3 := ⟨am_in 712 (by decide +kernel) rfl, am_in 4 (by decide +kernel) rfl, _, rfl, rfl, by decide⟩
theorem yc_X4_isValueWord : AYc yX4_isValueWord cX4_isValueWord 1 (some .boolean) 1 := ⟨am_in 133 (by decide +kernel) rfl, am_in 720 (by decide +kernel) rfl, ⟨by decide +kernel, by decide +kernel, by decide +kernel⟩, by decide⟩
theorem ys_X4_isValueWord : Cond.static yX4_isValueWord ∈ am_tbl := am_in 719 (by decide +kernel) rfl
theorem yc_X5_init : AYc yX5_init cX5_init 1 none 0 := ⟨am_in 125 (by decide +kernel) rfl, am_in 271 (by decide +kernel) rfl, ⟨by decide +kernel, by decide +kernel, by decide +kernel⟩, by decide⟩
theorem yi_X5_init : Cond.instanceMethod yX5_init ∈ am_tbl := am_in 270 (by decide +kernel) rfl
theorem yc_X5_copyFrom : AYc yX5_copyFrom cX5_copyFrom 2 none 1 := ⟨am_in 125 (by decide +kernel) rfl, am_in 1221 (by decide +kernel) rfl, ⟨by decide +kernel, by decide +kernel, by decide +kernel⟩, by decide⟩
theorem yv_X5_copyFrom : AYv yX5_copyFrom 4 := ⟨am_in 1219 (by decide +kernel) rfl, am_in 1220 (by decide +kernel) rfl, _, rfl, rfl, by decide⟩
theorem yc_X5_settle : AYc yX5_settle cX5_settle 2 none 1 := ⟨am_in 125 (by decide +kernel) rfl, am_in 852 (by decide +kernel) rfl, ⟨by decide +kernel, by decide +kernel, by decide +kernel⟩, by decide⟩
theorem yv_X5_settle : AYv yX5_settle 4 := ⟨am_in 850 (by decide +kernel) rfl, am_in 851 (by decide +kernel) rfl, _, rfl, rfl, by decide⟩
theorem yc_X5_addStated : AYc yX5_addStated cX5_addStated 4 none 3 := ⟨am_in 125 (by decide +kernel) rfl, am_in 1144 (by decide +kernel) rfl, ⟨by decide +kernel, by decide +kernel, by decide +kernel⟩, by decide⟩
theorem yv_X5_addStated : AYv yX5_addStated 4 := ⟨am_in 1142 (by decide +kernel) rfl, am_in 1143 (by decide +kernel) rfl, _, rfl, rfl, by decide⟩
theorem yc_X5_forgetTales : AYc yX5_forgetTales cX5_forgetTales 1 none 0 := ⟨am_in 125 (by decide +kernel) rfl, am_in 886 (by decide +kernel) rfl, ⟨by decide +kernel, by decide +kernel, by decide +kernel⟩, by decide⟩
theorem yv_X5_forgetTales : AYv yX5_forgetTales 4 := ⟨am_in 884 (by decide +kernel) rfl, am_in 885 (by decide +kernel) rfl, _, rfl, rfl, by decide⟩
theorem yc_X5_addTale : AYc yX5_addTale cX5_addTale 3 none 2 := ⟨am_in 125 (by decide +kernel) rfl, am_in 1180 (by decide +kernel) rfl, ⟨by decide +kernel, by decide +kernel, by decide +kernel⟩, by decide⟩
theorem yv_X5_addTale : AYv yX5_addTale 4 := ⟨am_in 1178 (by decide +kernel) rfl, am_in 1179 (by decide +kernel) rfl, _, rfl, rfl, by decide⟩
theorem yc_X5_fitsTales : AYc yX5_fitsTales cX5_fitsTales 4 (some .boolean) 2 := ⟨am_in 125 (by decide +kernel) rfl, am_in 1188 (by decide +kernel) rfl, ⟨by decide +kernel, by decide +kernel, by decide +kernel⟩, by decide⟩
theorem yv_X5_fitsTales : AYv yX5_fitsTales 4 := ⟨am_in 1186 (by decide +kernel) rfl, am_in 1187 (by decide +kernel) rfl, _, rfl, rfl, by decide⟩
theorem yc_X6_init : AYc yX6_init cX6_init 3 none 2 := ⟨am_in 128 (by decide +kernel) rfl, am_in 381 (by decide +kernel) rfl, ⟨by decide +kernel, by decide +kernel, by decide +kernel⟩, by decide⟩
theorem yi_X6_init : Cond.instanceMethod yX6_init ∈ am_tbl := am_in 380 (by decide +kernel) rfl
theorem yc_X6_valueOf : AYc yX6_valueOf cX6_valueOf 2 (some .long) 1 := ⟨am_in 128 (by decide +kernel) rfl, am_in 997 (by decide +kernel) rfl, ⟨by decide +kernel, by decide +kernel, by decide +kernel⟩, by decide⟩
theorem yv_X6_valueOf : AYv yX6_valueOf 5 := ⟨am_in 995 (by decide +kernel) rfl, am_in 996 (by decide +kernel) rfl, _, rfl, rfl, by decide⟩
theorem yc_X7_init : AYc yX7_init cX7_init 1 none 0 := ⟨am_in 123 (by decide +kernel) rfl, am_in 155 (by decide +kernel) rfl, ⟨by decide +kernel, by decide +kernel, by decide +kernel⟩, by decide⟩
theorem yi_X7_init : Cond.instanceMethod yX7_init ∈ am_tbl := am_in 154 (by decide +kernel) rfl
theorem yc_X7_cut : AYc yX7_cut cX7_cut 4 none 2 := ⟨am_in 123 (by decide +kernel) rfl, am_in 592 (by decide +kernel) rfl, ⟨by decide +kernel, by decide +kernel, by decide +kernel⟩, by decide⟩
theorem yv_X7_cut : AYv yX7_cut 6 := ⟨am_in 590 (by decide +kernel) rfl, am_in 591 (by decide +kernel) rfl, _, rfl, rfl, by decide⟩
theorem yc_X7_begin : AYc yX7_begin cX7_begin 3 none 2 := ⟨am_in 123 (by decide +kernel) rfl, am_in 608 (by decide +kernel) rfl, ⟨by decide +kernel, by decide +kernel, by decide +kernel⟩, by decide⟩
theorem yv_X7_begin : AYv yX7_begin 6 := ⟨am_in 607 (by decide +kernel) rfl, am_in 1 (by decide +kernel) rfl, _, rfl, rfl, by decide⟩
theorem yc_X7_goesOn : AYc yX7_goesOn cX7_goesOn 2 (some .boolean) 2 := ⟨am_in 123 (by decide +kernel) rfl, am_in 595 (by decide +kernel) rfl, ⟨by decide +kernel, by decide +kernel, by decide +kernel⟩, by decide⟩
theorem ys_X7_goesOn : Cond.static yX7_goesOn ∈ am_tbl := am_in 594 (by decide +kernel) rfl
theorem yc_X7_kindOf : AYc yX7_kindOf cX7_kindOf 1 (some .int) 1 := ⟨am_in 123 (by decide +kernel) rfl, am_in 604 (by decide +kernel) rfl, ⟨by decide +kernel, by decide +kernel, by decide +kernel⟩, by decide⟩
theorem ys_X7_kindOf : Cond.static yX7_kindOf ∈ am_tbl := am_in 603 (by decide +kernel) rfl
theorem yc_X7_isLetter : AYc yX7_isLetter cX7_isLetter 1 (some .boolean) 1 := ⟨am_in 123 (by decide +kernel) rfl, am_in 598 (by decide +kernel) rfl, ⟨by decide +kernel, by decide +kernel, by decide +kernel⟩, by decide⟩
theorem ys_X7_isLetter : Cond.static yX7_isLetter ∈ am_tbl := am_in 597 (by decide +kernel) rfl
theorem yc_X7_isDigit : AYc yX7_isDigit cX7_isDigit 1 (some .boolean) 1 := ⟨am_in 123 (by decide +kernel) rfl, am_in 601 (by decide +kernel) rfl, ⟨by decide +kernel, by decide +kernel, by decide +kernel⟩, by decide⟩
theorem ys_X7_isDigit : Cond.static yX7_isDigit ∈ am_tbl := am_in 600 (by decide +kernel) rfl
theorem yc_X7_settleValue : AYc yX7_settleValue cX7_settleValue 5 none 2 := ⟨am_in 123 (by decide +kernel) rfl, am_in 612 (by decide +kernel) rfl, ⟨by decide +kernel, by decide +kernel, by decide +kernel⟩, by decide⟩
theorem yv_X7_settleValue : AYv yX7_settleValue 6 := ⟨am_in 611 (by decide +kernel) rfl, am_in 2 (by decide +kernel) rfl, _, rfl, rfl, by decide⟩
theorem yc_X7_wordNumber : AYc yX7_wordNumber cX7_wordNumber 8 (some .int) 3 := ⟨am_in 123 (by decide +kernel) rfl, am_in 615 (by decide +kernel) rfl, ⟨by decide +kernel, by decide +kernel, by decide +kernel⟩, by decide⟩
theorem ys_X7_wordNumber : Cond.static yX7_wordNumber ∈ am_tbl := am_in 614 (by decide +kernel) rfl
theorem yc_X7_numberOf : AYc yX7_numberOf cX7_numberOf 5 (some .int) 3 := ⟨am_in 123 (by decide +kernel) rfl, am_in 667 (by decide +kernel) rfl, ⟨by decide +kernel, by decide +kernel, by decide +kernel⟩, by decide⟩
theorem ys_X7_numberOf : Cond.static yX7_numberOf ∈ am_tbl := am_in 666 (by decide +kernel) rfl
theorem yc_X7_signStep : AYc yX7_signStep cX7_signStep 2 (some .int) 2 := ⟨am_in 123 (by decide +kernel) rfl, am_in 670 (by decide +kernel) rfl, ⟨by decide +kernel, by decide +kernel, by decide +kernel⟩, by decide⟩
theorem ys_X7_signStep : Cond.static yX7_signStep ∈ am_tbl := am_in 669 (by decide +kernel) rfl
theorem yc_X7_fine : AYc yX7_fine cX7_fine 1 (some .boolean) 0 := ⟨am_in 123 (by decide +kernel) rfl, am_in 724 (by decide +kernel) rfl, ⟨by decide +kernel, by decide +kernel, by decide +kernel⟩, by decide⟩
theorem yv_X7_fine : AYv yX7_fine 6 := ⟨am_in 722 (by decide +kernel) rfl, am_in 723 (by decide +kernel) rfl, _, rfl, rfl, by decide⟩
theorem yc_X7_fail : AYc yX7_fail cX7_fail 2 none 1 := ⟨am_in 123 (by decide +kernel) rfl, am_in 701 (by decide +kernel) rfl, ⟨by decide +kernel, by decide +kernel, by decide +kernel⟩, by decide⟩
theorem yv_X7_fail : AYv yX7_fail 6 := ⟨am_in 699 (by decide +kernel) rfl, am_in 700 (by decide +kernel) rfl, _, rfl, rfl, by decide⟩
theorem yc_X7_refuseNumber : AYc yX7_refuseNumber cX7_refuseNumber 1 none 0 := ⟨am_in 123 (by decide +kernel) rfl, am_in 800 (by decide +kernel) rfl, ⟨by decide +kernel, by decide +kernel, by decide +kernel⟩, by decide⟩
theorem yv_X7_refuseNumber : AYv yX7_refuseNumber 6 := ⟨am_in 798 (by decide +kernel) rfl, am_in 799 (by decide +kernel) rfl, _, rfl, rfl, by decide⟩
theorem yc_X7_step : AYc yX7_step cX7_step 1 none 0 := ⟨am_in 123 (by decide +kernel) rfl, am_in 705 (by decide +kernel) rfl, ⟨by decide +kernel, by decide +kernel, by decide +kernel⟩, by decide⟩
theorem yv_X7_step : AYv yX7_step 6 := ⟨am_in 703 (by decide +kernel) rfl, am_in 704 (by decide +kernel) rfl, _, rfl, rfl, by decide⟩
theorem yc_X7_kindHere : AYc yX7_kindHere cX7_kindHere 1 (some .int) 0 := ⟨am_in 123 (by decide +kernel) rfl, am_in 717 (by decide +kernel) rfl, ⟨by decide +kernel, by decide +kernel, by decide +kernel⟩, by decide⟩
theorem yv_X7_kindHere : AYv yX7_kindHere 6 := ⟨am_in 715 (by decide +kernel) rfl, am_in 716 (by decide +kernel) rfl, _, rfl, rfl, by decide⟩
theorem yc_X7_valueHere : AYc yX7_valueHere cX7_valueHere 1 (some .int) 0 := ⟨am_in 123 (by decide +kernel) rfl, am_in 728 (by decide +kernel) rfl, ⟨by decide +kernel, by decide +kernel, by decide +kernel⟩, by decide⟩
theorem yv_X7_valueHere : AYv yX7_valueHere 6 := ⟨am_in 726 (by decide +kernel) rfl, am_in 727 (by decide +kernel) rfl, _, rfl, rfl, by decide⟩
theorem yc_X7_wordHere : AYc yX7_wordHere cX7_wordHere 1 (some .int) 0 := ⟨am_in 123 (by decide +kernel) rfl, am_in 697 (by decide +kernel) rfl, ⟨by decide +kernel, by decide +kernel, by decide +kernel⟩, by decide⟩
theorem yv_X7_wordHere : AYv yX7_wordHere 6 := ⟨am_in 695 (by decide +kernel) rfl, am_in 696 (by decide +kernel) rfl, _, rfl, rfl, by decide⟩
theorem yc_X7_isByte : AYc yX7_isByte cX7_isByte 2 (some .boolean) 1 := ⟨am_in 123 (by decide +kernel) rfl, am_in 748 (by decide +kernel) rfl, ⟨by decide +kernel, by decide +kernel, by decide +kernel⟩, by decide⟩
theorem yv_X7_isByte : AYv yX7_isByte 6 := ⟨am_in 746 (by decide +kernel) rfl, am_in 747 (by decide +kernel) rfl, _, rfl, rfl, by decide⟩
theorem yc_X7_readNumber : AYc yX7_readNumber cX7_readNumber 5 (some .int) 2 := ⟨am_in 123 (by decide +kernel) rfl, am_in 785 (by decide +kernel) rfl, ⟨by decide +kernel, by decide +kernel, by decide +kernel⟩, by decide⟩
theorem yv_X7_readNumber : AYv yX7_readNumber 6 := ⟨am_in 783 (by decide +kernel) rfl, am_in 784 (by decide +kernel) rfl, _, rfl, rfl, by decide⟩
theorem yc_X8_init : AYc yX8_init cX8_init 1 none 0 := ⟨am_in 124 (by decide +kernel) rfl, am_in 183 (by decide +kernel) rfl, ⟨by decide +kernel, by decide +kernel, by decide +kernel⟩, by decide⟩
theorem yi_X8_init : Cond.instanceMethod yX8_init ∈ am_tbl := am_in 182 (by decide +kernel) rfl
theorem yc_X8_clear : AYc yX8_clear cX8_clear 1 none 0 := ⟨am_in 124 (by decide +kernel) rfl, am_in 678 (by decide +kernel) rfl, ⟨by decide +kernel, by decide +kernel, by decide +kernel⟩, by decide⟩
theorem yv_X8_clear : AYv yX8_clear 7 := ⟨am_in 676 (by decide +kernel) rfl, am_in 677 (by decide +kernel) rfl, _, rfl, rfl, by decide⟩
theorem yc_X8_copyFrom : AYc yX8_copyFrom cX8_copyFrom 2 none 1 := ⟨am_in 124 (by decide +kernel) rfl, am_in 856 (by decide +kernel) rfl, ⟨by decide +kernel, by decide +kernel, by decide +kernel⟩, by decide⟩
theorem yv_X8_copyFrom : AYv yX8_copyFrom 7 := ⟨am_in 854 (by decide +kernel) rfl, am_in 855 (by decide +kernel) rfl, _, rfl, rfl, by decide⟩
theorem yc_X8_hasPerson : AYc yX8_hasPerson cX8_hasPerson 2 (some .boolean) 1 := ⟨am_in 124 (by decide +kernel) rfl, am_in 816 (by decide +kernel) rfl, ⟨by decide +kernel, by decide +kernel, by decide +kernel⟩, by decide⟩
theorem yv_X8_hasPerson : AYv yX8_hasPerson 7 := ⟨am_in 814 (by decide +kernel) rfl, am_in 815 (by decide +kernel) rfl, _, rfl, rfl, by decide⟩
theorem yc_X8_hasTwo : AYc yX8_hasTwo cX8_hasTwo 3 (some .boolean) 2 := ⟨am_in 124 (by decide +kernel) rfl, am_in 812 (by decide +kernel) rfl, ⟨by decide +kernel, by decide +kernel, by decide +kernel⟩, by decide⟩
theorem yv_X8_hasTwo : AYv yX8_hasTwo 7 := ⟨am_in 810 (by decide +kernel) rfl, am_in 811 (by decide +kernel) rfl, _, rfl, rfl, by decide⟩
theorem yc_X8_hasFact : AYc yX8_hasFact cX8_hasFact 2 (some .boolean) 1 := ⟨am_in 124 (by decide +kernel) rfl, am_in 922 (by decide +kernel) rfl, ⟨by decide +kernel, by decide +kernel, by decide +kernel⟩, by decide⟩
theorem yv_X8_hasFact : AYv yX8_hasFact 7 := ⟨am_in 920 (by decide +kernel) rfl, am_in 921 (by decide +kernel) rfl, _, rfl, rfl, by decide⟩
theorem yc_X8_hasStreet : AYc yX8_hasStreet cX8_hasStreet 3 (some .boolean) 2 := ⟨am_in 124 (by decide +kernel) rfl, am_in 808 (by decide +kernel) rfl, ⟨by decide +kernel, by decide +kernel, by decide +kernel⟩, by decide⟩
theorem yv_X8_hasStreet : AYv yX8_hasStreet 7 := ⟨am_in 806 (by decide +kernel) rfl, am_in 807 (by decide +kernel) rfl, _, rfl, rfl, by decide⟩
theorem yc_X8_addStreet : AYc yX8_addStreet cX8_addStreet 3 none 2 := ⟨am_in 124 (by decide +kernel) rfl, am_in 823 (by decide +kernel) rfl, ⟨by decide +kernel, by decide +kernel, by decide +kernel⟩, by decide⟩
theorem yv_X8_addStreet : AYv yX8_addStreet 7 := ⟨am_in 821 (by decide +kernel) rfl, am_in 822 (by decide +kernel) rfl, _, rfl, rfl, by decide⟩
theorem yc_X8_addIf : AYc yX8_addIf cX8_addIf 5 none 4 := ⟨am_in 124 (by decide +kernel) rfl, am_in 831 (by decide +kernel) rfl, ⟨by decide +kernel, by decide +kernel, by decide +kernel⟩, by decide⟩
theorem yv_X8_addIf : AYv yX8_addIf 7 := ⟨am_in 829 (by decide +kernel) rfl, am_in 830 (by decide +kernel) rfl, _, rfl, rfl, by decide⟩
theorem yc_X8_addHarm : AYc yX8_addHarm cX8_addHarm 4 none 3 := ⟨am_in 124 (by decide +kernel) rfl, am_in 839 (by decide +kernel) rfl, ⟨by decide +kernel, by decide +kernel, by decide +kernel⟩, by decide⟩
theorem yv_X8_addHarm : AYv yX8_addHarm 7 := ⟨am_in 837 (by decide +kernel) rfl, am_in 838 (by decide +kernel) rfl, _, rfl, rfl, by decide⟩
theorem yc_X8_addWhatFollows : AYc yX8_addWhatFollows cX8_addWhatFollows 5 none 2 := ⟨am_in 124 (by decide +kernel) rfl, am_in 874 (by decide +kernel) rfl, ⟨by decide +kernel, by decide +kernel, by decide +kernel⟩, by decide⟩
theorem yv_X8_addWhatFollows : AYv yX8_addWhatFollows 7 := ⟨am_in 872 (by decide +kernel) rfl, am_in 873 (by decide +kernel) rfl, _, rfl, rfl, by decide⟩
theorem yc_X8_firstFollowing : AYc yX8_firstFollowing cX8_firstFollowing 5 (some .int) 2 := ⟨am_in 124 (by decide +kernel) rfl, am_in 878 (by decide +kernel) rfl, ⟨by decide +kernel, by decide +kernel, by decide +kernel⟩, by decide⟩
theorem yv_X8_firstFollowing : AYv yX8_firstFollowing 7 := ⟨am_in 877 (by decide +kernel) rfl, am_in 20 (by decide +kernel) rfl, _, rfl, rfl, by decide⟩
theorem yc_X8_contradictionsOf : AYc yX8_contradictionsOf cX8_contradictionsOf 6 (some .int) 2 := ⟨am_in 124 (by decide +kernel) rfl, am_in 934 (by decide +kernel) rfl, ⟨by decide +kernel, by decide +kernel, by decide +kernel⟩, by decide⟩
theorem yv_X8_contradictionsOf : AYv yX8_contradictionsOf 7 := ⟨am_in 932 (by decide +kernel) rfl, am_in 933 (by decide +kernel) rfl, _, rfl, rfl, by decide⟩
theorem yc_X8_harmOf : AYc yX8_harmOf cX8_harmOf 5 (some .int) 2 := ⟨am_in 124 (by decide +kernel) rfl, am_in 930 (by decide +kernel) rfl, ⟨by decide +kernel, by decide +kernel, by decide +kernel⟩, by decide⟩
theorem yv_X8_harmOf : AYv yX8_harmOf 7 := ⟨am_in 928 (by decide +kernel) rfl, am_in 929 (by decide +kernel) rfl, _, rfl, rfl, by decide⟩
theorem yc_X8_harmOfFact : AYc yX8_harmOfFact cX8_harmOfFact 5 (some .int) 2 := ⟨am_in 124 (by decide +kernel) rfl, am_in 1002 (by decide +kernel) rfl, ⟨by decide +kernel, by decide +kernel, by decide +kernel⟩, by decide⟩
theorem yv_X8_harmOfFact : AYv yX8_harmOfFact 7 := ⟨am_in 1000 (by decide +kernel) rfl, am_in 1001 (by decide +kernel) rfl, _, rfl, rfl, by decide⟩
theorem yc_X8_reachesAll : AYc yX8_reachesAll cX8_reachesAll 3 (some .boolean) 1 := ⟨am_in 124 (by decide +kernel) rfl, am_in 1097 (by decide +kernel) rfl, ⟨by decide +kernel, by decide +kernel, by decide +kernel⟩, by decide⟩
theorem yv_X8_reachesAll : AYv yX8_reachesAll 7 := ⟨am_in 1095 (by decide +kernel) rfl, am_in 1096 (by decide +kernel) rfl, _, rfl, rfl, by decide⟩
theorem yc_X8_distance : AYc yX8_distance cX8_distance 6 (some .int) 3 := ⟨am_in 124 (by decide +kernel) rfl, am_in 1128 (by decide +kernel) rfl, ⟨by decide +kernel, by decide +kernel, by decide +kernel⟩, by decide⟩
theorem yv_X8_distance : AYv yX8_distance 7 := ⟨am_in 1126 (by decide +kernel) rfl, am_in 1127 (by decide +kernel) rfl, _, rfl, rfl, by decide⟩
theorem yc_X8_spread : AYc yX8_spread cX8_spread 6 (some .int) 2 := ⟨am_in 124 (by decide +kernel) rfl, am_in 1132 (by decide +kernel) rfl, ⟨by decide +kernel, by decide +kernel, by decide +kernel⟩, by decide⟩
theorem yv_X8_spread : AYv yX8_spread 7 := ⟨am_in 1131 (by decide +kernel) rfl, am_in 35 (by decide +kernel) rfl, _, rfl, rfl, by decide⟩
theorem yc_X9_init : AYc yX9_init cX9_init 3 none 2 := ⟨am_in 132 (by decide +kernel) rfl, am_in 491 (by decide +kernel) rfl, ⟨by decide +kernel, by decide +kernel, by decide +kernel⟩, by decide⟩
theorem yi_X9_init : Cond.instanceMethod yX9_init ∈ am_tbl := am_in 490 (by decide +kernel) rfl
theorem yc_X9_begin : AYc yX9_begin cX9_begin 2 none 1 := ⟨am_in 132 (by decide +kernel) rfl, am_in 674 (by decide +kernel) rfl, ⟨by decide +kernel, by decide +kernel, by decide +kernel⟩, by decide⟩
theorem yv_X9_begin : AYv yX9_begin 8 := ⟨am_in 672 (by decide +kernel) rfl, am_in 673 (by decide +kernel) rfl, _, rfl, rfl, by decide⟩
theorem yc_X9_readClause : AYc yX9_readClause cX9_readClause 3 none 1 := ⟨am_in 132 (by decide +kernel) rfl, am_in 766 (by decide +kernel) rfl, ⟨by decide +kernel, by decide +kernel, by decide +kernel⟩, by decide⟩
theorem yc_X9_isOneTooMany : AYc yX9_isOneTooMany cX9_isOneTooMany 3 (some .boolean) 2 := ⟨am_in 132 (by decide +kernel) rfl, am_in 772 (by decide +kernel) rfl, ⟨by decide +kernel, by decide +kernel, by decide +kernel⟩, by decide⟩
theorem yv_X9_isOneTooMany : AYv yX9_isOneTooMany 8 := ⟨am_in 771 (by decide +kernel) rfl, am_in 10 (by decide +kernel) rfl, _, rfl, rfl, by decide⟩
theorem yc_X9_readBehind : AYc yX9_readBehind cX9_readBehind 2 none 1 := ⟨am_in 132 (by decide +kernel) rfl, am_in 777 (by decide +kernel) rfl, ⟨by decide +kernel, by decide +kernel, by decide +kernel⟩, by decide⟩
theorem yv_X9_readBehind : AYv yX9_readBehind 8 := ⟨am_in 776 (by decide +kernel) rfl, am_in 11 (by decide +kernel) rfl, _, rfl, rfl, by decide⟩
theorem yc_X9_readFacts : AYc yX9_readFacts cX9_readFacts 3 none 0 := ⟨am_in 132 (by decide +kernel) rfl, am_in 781 (by decide +kernel) rfl, ⟨by decide +kernel, by decide +kernel, by decide +kernel⟩, by decide⟩
theorem yv_X9_readFacts : AYv yX9_readFacts 8 := ⟨am_in 780 (by decide +kernel) rfl, am_in 12 (by decide +kernel) rfl, _, rfl, rfl, by decide⟩
theorem yc_X9_readPerson : AYc yX9_readPerson cX9_readPerson 2 none 0 := ⟨am_in 132 (by decide +kernel) rfl, am_in 791 (by decide +kernel) rfl, ⟨by decide +kernel, by decide +kernel, by decide +kernel⟩, by decide⟩
theorem yv_X9_readPerson : AYv yX9_readPerson 8 := ⟨am_in 790 (by decide +kernel) rfl, am_in 13 (by decide +kernel) rfl, _, rfl, rfl, by decide⟩
theorem yc_X9_readTrust : AYc yX9_readTrust cX9_readTrust 4 none 0 := ⟨am_in 132 (by decide +kernel) rfl, am_in 796 (by decide +kernel) rfl, ⟨by decide +kernel, by decide +kernel, by decide +kernel⟩, by decide⟩
theorem yv_X9_readTrust : AYv yX9_readTrust 8 := ⟨am_in 795 (by decide +kernel) rfl, am_in 14 (by decide +kernel) rfl, _, rfl, rfl, by decide⟩
theorem yc_X9_readStreet : AYc yX9_readStreet cX9_readStreet 3 none 0 := ⟨am_in 132 (by decide +kernel) rfl, am_in 804 (by decide +kernel) rfl, ⟨by decide +kernel, by decide +kernel, by decide +kernel⟩, by decide⟩
theorem yv_X9_readStreet : AYv yX9_readStreet 8 := ⟨am_in 803 (by decide +kernel) rfl, am_in 15 (by decide +kernel) rfl, _, rfl, rfl, by decide⟩
theorem yc_X9_readIf : AYc yX9_readIf cX9_readIf 5 none 0 := ⟨am_in 132 (by decide +kernel) rfl, am_in 827 (by decide +kernel) rfl, ⟨by decide +kernel, by decide +kernel, by decide +kernel⟩, by decide⟩
theorem yv_X9_readIf : AYv yX9_readIf 8 := ⟨am_in 826 (by decide +kernel) rfl, am_in 16 (by decide +kernel) rfl, _, rfl, rfl, by decide⟩
theorem yc_X9_readHarm : AYc yX9_readHarm cX9_readHarm 4 none 0 := ⟨am_in 132 (by decide +kernel) rfl, am_in 835 (by decide +kernel) rfl, ⟨by decide +kernel, by decide +kernel, by decide +kernel⟩, by decide⟩
theorem yv_X9_readHarm : AYv yX9_readHarm 8 := ⟨am_in 834 (by decide +kernel) rfl, am_in 17 (by decide +kernel) rfl, _, rfl, rfl, by decide⟩
theorem yc_X9_readChild : AYc yX9_readChild cX9_readChild 2 none 0 := ⟨am_in 132 (by decide +kernel) rfl, am_in 843 (by decide +kernel) rfl, ⟨by decide +kernel, by decide +kernel, by decide +kernel⟩, by decide⟩
theorem yv_X9_readChild : AYv yX9_readChild 8 := ⟨am_in 842 (by decide +kernel) rfl, am_in 18 (by decide +kernel) rfl, _, rfl, rfl, by decide⟩
theorem yc_X10_init : AYc yX10_init cX10_init 1 none 0 := ⟨am_in 129 (by decide +kernel) rfl, am_in 420 (by decide +kernel) rfl, ⟨by decide +kernel, by decide +kernel, by decide +kernel⟩, by decide⟩
theorem yi_X10_init : Cond.instanceMethod yX10_init ∈ am_tbl := am_in 419 (by decide +kernel) rfl
theorem yc_X10_weigh : AYc yX10_weigh cX10_weigh 4 none 1 := ⟨am_in 129 (by decide +kernel) rfl, am_in 1152 (by decide +kernel) rfl, ⟨by decide +kernel, by decide +kernel, by decide +kernel⟩, by decide⟩
theorem yv_X10_weigh : AYv yX10_weigh 9 := ⟨am_in 1150 (by decide +kernel) rfl, am_in 1151 (by decide +kernel) rfl, _, rfl, rfl, by decide⟩
theorem yc_X10_weighWay : AYc yX10_weighWay cX10_weighWay 7 none 2 := ⟨am_in 129 (by decide +kernel) rfl, am_in 1157 (by decide +kernel) rfl, ⟨by decide +kernel, by decide +kernel, by decide +kernel⟩, by decide⟩
theorem yv_X10_weighWay : AYv yX10_weighWay 9 := ⟨am_in 1156 (by decide +kernel) rfl, am_in 36 (by decide +kernel) rfl, _, rfl, rfl, by decide⟩
theorem yc_X10_addWay : AYc yX10_addWay cX10_addWay 5 none 3 := ⟨am_in 129 (by decide +kernel) rfl, am_in 1162 (by decide +kernel) rfl, ⟨by decide +kernel, by decide +kernel, by decide +kernel⟩, by decide⟩
theorem yv_X10_addWay : AYv yX10_addWay 9 := ⟨am_in 1161 (by decide +kernel) rfl, am_in 37 (by decide +kernel) rfl, _, rfl, rfl, by decide⟩
theorem yc_X10_mostAgreeing : AYc yX10_mostAgreeing cX10_mostAgreeing 2 (some .int) 1 := ⟨am_in 129 (by decide +kernel) rfl, am_in 1170 (by decide +kernel) rfl, ⟨by decide +kernel, by decide +kernel, by decide +kernel⟩, by decide⟩
theorem yv_X10_mostAgreeing : AYv yX10_mostAgreeing 9 := ⟨am_in 1168 (by decide +kernel) rfl, am_in 1169 (by decide +kernel) rfl, _, rfl, rfl, by decide⟩
theorem yc_X11_init : AYc yX11_init cX11_init 3 none 0 := ⟨am_in 122 (by decide +kernel) rfl, am_in 147 (by decide +kernel) rfl, ⟨by decide +kernel, by decide +kernel, by decide +kernel⟩, by decide⟩
theorem yi_X11_init : Cond.instanceMethod yX11_init ∈ am_tbl := am_in 146 (by decide +kernel) rfl
theorem yc_X11_feed : AYc yX11_feed cX11_feed 6 (some .int) 5 := ⟨am_in 122 (by decide +kernel) rfl, am_in 576 (by decide +kernel) rfl, ⟨by decide +kernel, by decide +kernel, by decide +kernel⟩, by decide⟩
theorem yv_X11_feed : AYv yX11_feed 10 := ⟨am_in 574 (by decide +kernel) rfl, am_in 575 (by decide +kernel) rfl, _, rfl, rfl, by decide⟩
theorem yc_X11_addBytes : AYc yX11_addBytes cX11_addBytes 3 none 1 := ⟨am_in 122 (by decide +kernel) rfl, am_in 580 (by decide +kernel) rfl, ⟨by decide +kernel, by decide +kernel, by decide +kernel⟩, by decide⟩
theorem yv_X11_addBytes : AYv yX11_addBytes 10 := ⟨am_in 579 (by decide +kernel) rfl, am_in 0 (by decide +kernel) rfl, _, rfl, rfl, by decide⟩
theorem yc_X11_end : AYc yX11_end cX11_end 2 (some .int) 1 := ⟨am_in 122 (by decide +kernel) rfl, am_in 584 (by decide +kernel) rfl, ⟨by decide +kernel, by decide +kernel, by decide +kernel⟩, by decide⟩
theorem yv_X11_end : AYv yX11_end 10 := ⟨am_in 582 (by decide +kernel) rfl, am_in 583 (by decide +kernel) rfl, _, rfl, rfl, by decide⟩
theorem yc_X11_town : AYc yX11_town cX11_town 2 (some .int) 0 := ⟨am_in 122 (by decide +kernel) rfl, am_in 588 (by decide +kernel) rfl, ⟨by decide +kernel, by decide +kernel, by decide +kernel⟩, by decide⟩
theorem yv_X11_town : AYv yX11_town 10 := ⟨am_in 586 (by decide +kernel) rfl, am_in 587 (by decide +kernel) rfl, _, rfl, rfl, by decide⟩
theorem yc_X11_rule : AYc yX11_rule cX11_rule 2 (some .int) 0 := ⟨am_in 122 (by decide +kernel) rfl, am_in 894 (by decide +kernel) rfl, ⟨by decide +kernel, by decide +kernel, by decide +kernel⟩, by decide⟩
theorem yv_X11_rule : AYv yX11_rule 10 := ⟨am_in 892 (by decide +kernel) rfl, am_in 893 (by decide +kernel) rfl, _, rfl, rfl, by decide⟩
theorem yc_X11_charter : AYc yX11_charter cX11_charter 3 (some .int) 1 := ⟨am_in 122 (by decide +kernel) rfl, am_in 909 (by decide +kernel) rfl, ⟨by decide +kernel, by decide +kernel, by decide +kernel⟩, by decide⟩
theorem yv_X11_charter : AYv yX11_charter 10 := ⟨am_in 907 (by decide +kernel) rfl, am_in 908 (by decide +kernel) rfl, _, rfl, rfl, by decide⟩
theorem yc_X11_holds : AYc yX11_holds cX11_holds 5 (some .int) 3 := ⟨am_in 122 (by decide +kernel) rfl, am_in 917 (by decide +kernel) rfl, ⟨by decide +kernel, by decide +kernel, by decide +kernel⟩, by decide⟩
theorem yv_X11_holds : AYv yX11_holds 10 := ⟨am_in 915 (by decide +kernel) rfl, am_in 916 (by decide +kernel) rfl, _, rfl, rfl, by decide⟩
theorem yc_X11_person : AYc yX11_person cX11_person 3 (some .int) 2 := ⟨am_in 122 (by decide +kernel) rfl, am_in 926 (by decide +kernel) rfl, ⟨by decide +kernel, by decide +kernel, by decide +kernel⟩, by decide⟩
theorem yv_X11_person : AYv yX11_person 10 := ⟨am_in 924 (by decide +kernel) rfl, am_in 925 (by decide +kernel) rfl, _, rfl, rfl, by decide⟩
theorem yc_X11_trust : AYc yX11_trust cX11_trust 3 (some .int) 2 := ⟨am_in 122 (by decide +kernel) rfl, am_in 939 (by decide +kernel) rfl, ⟨by decide +kernel, by decide +kernel, by decide +kernel⟩, by decide⟩
theorem yv_X11_trust : AYv yX11_trust 10 := ⟨am_in 937 (by decide +kernel) rfl, am_in 938 (by decide +kernel) rfl, _, rfl, rfl, by decide⟩
theorem yc_X11_count : AYc yX11_count cX11_count 2 (some .int) 1 := ⟨am_in 122 (by decide +kernel) rfl, am_in 944 (by decide +kernel) rfl, ⟨by decide +kernel, by decide +kernel, by decide +kernel⟩, by decide⟩
theorem yv_X11_count : AYv yX11_count 10 := ⟨am_in 942 (by decide +kernel) rfl, am_in 943 (by decide +kernel) rfl, _, rfl, rfl, by decide⟩
theorem yc_X11_say : AYc yX11_say cX11_say 5 (some .int) 4 := ⟨am_in 122 (by decide +kernel) rfl, am_in 957 (by decide +kernel) rfl, ⟨by decide +kernel, by decide +kernel, by decide +kernel⟩, by decide⟩
theorem yv_X11_say : AYv yX11_say 10 := ⟨am_in 955 (by decide +kernel) rfl, am_in 956 (by decide +kernel) rfl, _, rfl, rfl, by decide⟩
theorem yc_X11_would : AYc yX11_would cX11_would 5 (some .int) 4 := ⟨am_in 122 (by decide +kernel) rfl, am_in 1024 (by decide +kernel) rfl, ⟨by decide +kernel, by decide +kernel, by decide +kernel⟩, by decide⟩
theorem yv_X11_would : AYv yX11_would 10 := ⟨am_in 1022 (by decide +kernel) rfl, am_in 1023 (by decide +kernel) rfl, _, rfl, rfl, by decide⟩
theorem yc_X11_meet : AYc yX11_meet cX11_meet 6 (some .int) 2 := ⟨am_in 122 (by decide +kernel) rfl, am_in 1028 (by decide +kernel) rfl, ⟨by decide +kernel, by decide +kernel, by decide +kernel⟩, by decide⟩
theorem yv_X11_meet : AYv yX11_meet 10 := ⟨am_in 1026 (by decide +kernel) rfl, am_in 1027 (by decide +kernel) rfl, _, rfl, rfl, by decide⟩
theorem yc_X11_hour : AYc yX11_hour cX11_hour 1 (some .int) 0 := ⟨am_in 122 (by decide +kernel) rfl, am_in 1042 (by decide +kernel) rfl, ⟨by decide +kernel, by decide +kernel, by decide +kernel⟩, by decide⟩
theorem yv_X11_hour : AYv yX11_hour 10 := ⟨am_in 1040 (by decide +kernel) rfl, am_in 1041 (by decide +kernel) rfl, _, rfl, rfl, by decide⟩
theorem yc_X11_midnight : AYc yX11_midnight cX11_midnight 1 (some .int) 0 := ⟨am_in 122 (by decide +kernel) rfl, am_in 1046 (by decide +kernel) rfl, ⟨by decide +kernel, by decide +kernel, by decide +kernel⟩, by decide⟩
theorem yv_X11_midnight : AYv yX11_midnight 10 := ⟨am_in 1044 (by decide +kernel) rfl, am_in 1045 (by decide +kernel) rfl, _, rfl, rfl, by decide⟩
theorem yc_X11_undo : AYc yX11_undo cX11_undo 1 (some .int) 0 := ⟨am_in 122 (by decide +kernel) rfl, am_in 1059 (by decide +kernel) rfl, ⟨by decide +kernel, by decide +kernel, by decide +kernel⟩, by decide⟩
theorem yv_X11_undo : AYv yX11_undo 10 := ⟨am_in 1057 (by decide +kernel) rfl, am_in 1058 (by decide +kernel) rfl, _, rfl, rfl, by decide⟩
theorem yc_X11_run : AYc yX11_run cX11_run 5 (some .int) 2 := ⟨am_in 122 (by decide +kernel) rfl, am_in 1067 (by decide +kernel) rfl, ⟨by decide +kernel, by decide +kernel, by decide +kernel⟩, by decide⟩
theorem yv_X11_run : AYv yX11_run 10 := ⟨am_in 1065 (by decide +kernel) rfl, am_in 1066 (by decide +kernel) rfl, _, rfl, rfl, by decide⟩
theorem yc_X11_liveHour : AYc yX11_liveHour cX11_liveHour 5 (some .int) 1 := ⟨am_in 122 (by decide +kernel) rfl, am_in 1071 (by decide +kernel) rfl, ⟨by decide +kernel, by decide +kernel, by decide +kernel⟩, by decide⟩
theorem yv_X11_liveHour : AYv yX11_liveHour 10 := ⟨am_in 1070 (by decide +kernel) rfl, am_in 30 (by decide +kernel) rfl, _, rfl, rfl, by decide⟩
theorem yc_X11_chooseSaying : AYc yX11_chooseSaying cX11_chooseSaying 13 (some .boolean) 2 := ⟨am_in 122 (by decide +kernel) rfl, am_in 1075 (by decide +kernel) rfl, ⟨by decide +kernel, by decide +kernel, by decide +kernel⟩, by decide⟩
theorem yv_X11_chooseSaying : AYv yX11_chooseSaying 10 := ⟨am_in 1074 (by decide +kernel) rfl, am_in 31 (by decide +kernel) rfl, _, rfl, rfl, by decide⟩
theorem yc_X11_hasRule : AYc yX11_hasRule cX11_hasRule 2 (some .boolean) 1 := ⟨am_in 122 (by decide +kernel) rfl, am_in 913 (by decide +kernel) rfl, ⟨by decide +kernel, by decide +kernel, by decide +kernel⟩, by decide⟩
theorem yv_X11_hasRule : AYv yX11_hasRule 10 := ⟨am_in 912 (by decide +kernel) rfl, am_in 22 (by decide +kernel) rfl, _, rfl, rfl, by decide⟩
theorem yc_X11_canSay : AYc yX11_canSay cX11_canSay 5 (some .boolean) 4 := ⟨am_in 122 (by decide +kernel) rfl, am_in 961 (by decide +kernel) rfl, ⟨by decide +kernel, by decide +kernel, by decide +kernel⟩, by decide⟩
theorem yv_X11_canSay : AYv yX11_canSay 10 := ⟨am_in 960 (by decide +kernel) rfl, am_in 23 (by decide +kernel) rfl, _, rfl, rfl, by decide⟩
theorem yc_X11_prepare : AYc yX11_prepare cX11_prepare 6 none 5 := ⟨am_in 122 (by decide +kernel) rfl, am_in 977 (by decide +kernel) rfl, ⟨by decide +kernel, by decide +kernel, by decide +kernel⟩, by decide⟩
theorem yv_X11_prepare : AYv yX11_prepare 10 := ⟨am_in 976 (by decide +kernel) rfl, am_in 24 (by decide +kernel) rfl, _, rfl, rfl, by decide⟩
theorem yc_X11_speak : AYc yX11_speak cX11_speak 2 (some .int) 0 := ⟨am_in 122 (by decide +kernel) rfl, am_in 981 (by decide +kernel) rfl, ⟨by decide +kernel, by decide +kernel, by decide +kernel⟩, by decide⟩
theorem yv_X11_speak : AYv yX11_speak 10 := ⟨am_in 980 (by decide +kernel) rfl, am_in 25 (by decide +kernel) rfl, _, rfl, rfl, by decide⟩
theorem yc_X11_isLie : AYc yX11_isLie cX11_isLie 2 (some .boolean) 0 := ⟨am_in 122 (by decide +kernel) rfl, am_in 985 (by decide +kernel) rfl, ⟨by decide +kernel, by decide +kernel, by decide +kernel⟩, by decide⟩
theorem yv_X11_isLie : AYv yX11_isLie 10 := ⟨am_in 984 (by decide +kernel) rfl, am_in 26 (by decide +kernel) rfl, _, rfl, rfl, by decide⟩
theorem yc_X11_tellAll : AYc yX11_tellAll cX11_tellAll 6 (some .int) 2 := ⟨am_in 122 (by decide +kernel) rfl, am_in 1038 (by decide +kernel) rfl, ⟨by decide +kernel, by decide +kernel, by decide +kernel⟩, by decide⟩
theorem yv_X11_tellAll : AYv yX11_tellAll 10 := ⟨am_in 1037 (by decide +kernel) rfl, am_in 28 (by decide +kernel) rfl, _, rfl, rfl, by decide⟩
theorem yc_X11_breach : AYc yX11_breach cX11_breach 2 (some .int) 1 := ⟨am_in 122 (by decide +kernel) rfl, am_in 1083 (by decide +kernel) rfl, ⟨by decide +kernel, by decide +kernel, by decide +kernel⟩, by decide⟩
theorem yv_X11_breach : AYv yX11_breach 10 := ⟨am_in 1081 (by decide +kernel) rfl, am_in 1082 (by decide +kernel) rfl, _, rfl, rfl, by decide⟩
theorem yc_X11_tellers : AYc yX11_tellers cX11_tellers 6 (some .int) 1 := ⟨am_in 122 (by decide +kernel) rfl, am_in 1087 (by decide +kernel) rfl, ⟨by decide +kernel, by decide +kernel, by decide +kernel⟩, by decide⟩
theorem yv_X11_tellers : AYv yX11_tellers 10 := ⟨am_in 1085 (by decide +kernel) rfl, am_in 1086 (by decide +kernel) rfl, _, rfl, rfl, by decide⟩
theorem yc_X11_leastLie : AYc yX11_leastLie cX11_leastLie 5 (some .int) 3 := ⟨am_in 122 (by decide +kernel) rfl, am_in 1101 (by decide +kernel) rfl, ⟨by decide +kernel, by decide +kernel, by decide +kernel⟩, by decide⟩
theorem yv_X11_leastLie : AYv yX11_leastLie 10 := ⟨am_in 1099 (by decide +kernel) rfl, am_in 1100 (by decide +kernel) rfl, _, rfl, rfl, by decide⟩
theorem yc_X11_leastLieFact : AYc yX11_leastLieFact cX11_leastLieFact 7 (some .int) 2 := ⟨am_in 122 (by decide +kernel) rfl, am_in 1105 (by decide +kernel) rfl, ⟨by decide +kernel, by decide +kernel, by decide +kernel⟩, by decide⟩
theorem yv_X11_leastLieFact : AYv yX11_leastLieFact 10 := ⟨am_in 1104 (by decide +kernel) rfl, am_in 32 (by decide +kernel) rfl, _, rfl, rfl, by decide⟩
theorem yc_X11_harmBehindLie : AYc yX11_harmBehindLie cX11_harmBehindLie 4 (some .int) 3 := ⟨am_in 122 (by decide +kernel) rfl, am_in 1109 (by decide +kernel) rfl, ⟨by decide +kernel, by decide +kernel, by decide +kernel⟩, by decide⟩
theorem yv_X11_harmBehindLie : AYv yX11_harmBehindLie 10 := ⟨am_in 1108 (by decide +kernel) rfl, am_in 33 (by decide +kernel) rfl, _, rfl, rfl, by decide⟩
theorem yc_X11_evening : AYc yX11_evening cX11_evening 3 (some .int) 0 := ⟨am_in 122 (by decide +kernel) rfl, am_in 1116 (by decide +kernel) rfl, ⟨by decide +kernel, by decide +kernel, by decide +kernel⟩, by decide⟩
theorem yv_X11_evening : AYv yX11_evening 10 := ⟨am_in 1114 (by decide +kernel) rfl, am_in 1115 (by decide +kernel) rfl, _, rfl, rfl, by decide⟩
theorem yc_X11_eveningHarm : AYc yX11_eveningHarm cX11_eveningHarm 7 (some .int) 1 := ⟨am_in 122 (by decide +kernel) rfl, am_in 1120 (by decide +kernel) rfl, ⟨by decide +kernel, by decide +kernel, by decide +kernel⟩, by decide⟩
theorem yv_X11_eveningHarm : AYv yX11_eveningHarm 10 := ⟨am_in 1119 (by decide +kernel) rfl, am_in 34 (by decide +kernel) rfl, _, rfl, rfl, by decide⟩
theorem yc_X11_walls : AYc yX11_walls cX11_walls 8 (some .int) 3 := ⟨am_in 122 (by decide +kernel) rfl, am_in 1124 (by decide +kernel) rfl, ⟨by decide +kernel, by decide +kernel, by decide +kernel⟩, by decide⟩
theorem yv_X11_walls : AYv yX11_walls 10 := ⟨am_in 1122 (by decide +kernel) rfl, am_in 1123 (by decide +kernel) rfl, _, rfl, rfl, by decide⟩
theorem yc_X11_leak : AYc yX11_leak cX11_leak 3 (some .int) 2 := ⟨am_in 122 (by decide +kernel) rfl, am_in 1136 (by decide +kernel) rfl, ⟨by decide +kernel, by decide +kernel, by decide +kernel⟩, by decide⟩
theorem yv_X11_leak : AYv yX11_leak 10 := ⟨am_in 1134 (by decide +kernel) rfl, am_in 1135 (by decide +kernel) rfl, _, rfl, rfl, by decide⟩
theorem yc_X11_stated : AYc yX11_stated cX11_stated 5 (some .int) 3 := ⟨am_in 122 (by decide +kernel) rfl, am_in 1140 (by decide +kernel) rfl, ⟨by decide +kernel, by decide +kernel, by decide +kernel⟩, by decide⟩
theorem yv_X11_stated : AYv yX11_stated 10 := ⟨am_in 1138 (by decide +kernel) rfl, am_in 1139 (by decide +kernel) rfl, _, rfl, rfl, by decide⟩
theorem yc_X11_truths : AYc yX11_truths cX11_truths 2 (some .int) 1 := ⟨am_in 122 (by decide +kernel) rfl, am_in 1148 (by decide +kernel) rfl, ⟨by decide +kernel, by decide +kernel, by decide +kernel⟩, by decide⟩
theorem yv_X11_truths : AYv yX11_truths 10 := ⟨am_in 1146 (by decide +kernel) rfl, am_in 1147 (by decide +kernel) rfl, _, rfl, rfl, by decide⟩
theorem yc_X11_ask : AYc yX11_ask cX11_ask 4 (some .int) 1 := ⟨am_in 122 (by decide +kernel) rfl, am_in 1166 (by decide +kernel) rfl, ⟨by decide +kernel, by decide +kernel, by decide +kernel⟩, by decide⟩
theorem yv_X11_ask : AYv yX11_ask 10 := ⟨am_in 1164 (by decide +kernel) rfl, am_in 1165 (by decide +kernel) rfl, _, rfl, rfl, by decide⟩
theorem yc_X11_tale : AYc yX11_tale cX11_tale 3 (some .int) 2 := ⟨am_in 122 (by decide +kernel) rfl, am_in 1175 (by decide +kernel) rfl, ⟨by decide +kernel, by decide +kernel, by decide +kernel⟩, by decide⟩
theorem yv_X11_tale : AYv yX11_tale 10 := ⟨am_in 1173 (by decide +kernel) rfl, am_in 1174 (by decide +kernel) rfl, _, rfl, rfl, by decide⟩
theorem yc_X11_schedules : AYc yX11_schedules cX11_schedules 8 (some .int) 3 := ⟨am_in 122 (by decide +kernel) rfl, am_in 1184 (by decide +kernel) rfl, ⟨by decide +kernel, by decide +kernel, by decide +kernel⟩, by decide⟩
theorem yv_X11_schedules : AYv yX11_schedules 10 := ⟨am_in 1182 (by decide +kernel) rfl, am_in 1183 (by decide +kernel) rfl, _, rfl, rfl, by decide⟩
theorem yc_X11_seed : AYc yX11_seed cX11_seed 3 (some .int) 1 := ⟨am_in 122 (by decide +kernel) rfl, am_in 1192 (by decide +kernel) rfl, ⟨by decide +kernel, by decide +kernel, by decide +kernel⟩, by decide⟩
theorem yv_X11_seed : AYv yX11_seed 10 := ⟨am_in 1190 (by decide +kernel) rfl, am_in 1191 (by decide +kernel) rfl, _, rfl, rfl, by decide⟩
theorem yc_X11_years : AYc yX11_years cX11_years 8 (some .int) 3 := ⟨am_in 122 (by decide +kernel) rfl, am_in 1196 (by decide +kernel) rfl, ⟨by decide +kernel, by decide +kernel, by decide +kernel⟩, by decide⟩
theorem yv_X11_years : AYv yX11_years 10 := ⟨am_in 1194 (by decide +kernel) rfl, am_in 1195 (by decide +kernel) rfl, _, rfl, rfl, by decide⟩
theorem yc_X11_tryDay : AYc yX11_tryDay cX11_tryDay 12 (some .int) 1 := ⟨am_in 122 (by decide +kernel) rfl, am_in 1201 (by decide +kernel) rfl, ⟨by decide +kernel, by decide +kernel, by decide +kernel⟩, by decide⟩
theorem yv_X11_tryDay : AYv yX11_tryDay 10 := ⟨am_in 1200 (by decide +kernel) rfl, am_in 38 (by decide +kernel) rfl, _, rfl, rfl, by decide⟩
theorem yc_X11_draw : AYc yX11_draw cX11_draw 1 (some .int) 0 := ⟨am_in 122 (by decide +kernel) rfl, am_in 1205 (by decide +kernel) rfl, ⟨by decide +kernel, by decide +kernel, by decide +kernel⟩, by decide⟩
theorem yv_X11_draw : AYv yX11_draw 10 := ⟨am_in 1204 (by decide +kernel) rfl, am_in 39 (by decide +kernel) rfl, _, rfl, rfl, by decide⟩
theorem yc_X11_image : AYc yX11_image cX11_image 2 (some .int) 1 := ⟨am_in 122 (by decide +kernel) rfl, am_in 1217 (by decide +kernel) rfl, ⟨by decide +kernel, by decide +kernel, by decide +kernel⟩, by decide⟩
theorem yv_X11_image : AYv yX11_image 10 := ⟨am_in 1215 (by decide +kernel) rfl, am_in 1216 (by decide +kernel) rfl, _, rfl, rfl, by decide⟩
theorem yc_X11_back : AYc yX11_back cX11_back 2 (some .int) 1 := ⟨am_in 122 (by decide +kernel) rfl, am_in 1227 (by decide +kernel) rfl, ⟨by decide +kernel, by decide +kernel, by decide +kernel⟩, by decide⟩
theorem yv_X11_back : AYv yX11_back 10 := ⟨am_in 1225 (by decide +kernel) rfl, am_in 1226 (by decide +kernel) rfl, _, rfl, rfl, by decide⟩
theorem yc_X11_bit : AYc yX11_bit cX11_bit 2 (some .int) 2 := ⟨am_in 122 (by decide +kernel) rfl, am_in 819 (by decide +kernel) rfl, ⟨by decide +kernel, by decide +kernel, by decide +kernel⟩, by decide⟩
theorem ys_X11_bit : Cond.static yX11_bit ∈ am_tbl := am_in 818 (by decide +kernel) rfl
theorem yc_X11_isBit : AYc yX11_isBit cX11_isBit 1 (some .boolean) 1 := ⟨am_in 122 (by decide +kernel) rfl, am_in 965 (by decide +kernel) rfl, ⟨by decide +kernel, by decide +kernel, by decide +kernel⟩, by decide⟩
theorem ys_X11_isBit : Cond.static yX11_isBit ∈ am_tbl := am_in 964 (by decide +kernel) rfl
theorem yc_X12_init : AYc yX12_init cX12_init 1 none 0 := ⟨am_in 134 (by decide +kernel) rfl, am_in 1232 (by decide +kernel) rfl, ⟨by decide +kernel, by decide +kernel, by decide +kernel⟩, by decide⟩
theorem yi_X12_init : Cond.instanceMethod yX12_init ∈ am_tbl := am_in 1231 (by decide +kernel) rfl
theorem yc_X12_in : AYc yX12_in cX12_in 6 (some .boolean) 3 := ⟨am_in 134 (by decide +kernel) rfl, am_in 1411 (by decide +kernel) rfl, ⟨by decide +kernel, by decide +kernel, by decide +kernel⟩, by decide⟩
theorem ys_X12_in : Cond.static yX12_in ∈ am_tbl := am_in 1410 (by decide +kernel) rfl
theorem yc_X12_isOf : AYc yX12_isOf cX12_isOf 2 (some .boolean) 2 := ⟨am_in 134 (by decide +kernel) rfl, am_in 1418 (by decide +kernel) rfl, ⟨by decide +kernel, by decide +kernel, by decide +kernel⟩, by decide⟩
theorem ys_X12_isOf : Cond.static yX12_isOf ∈ am_tbl := am_in 1417 (by decide +kernel) rfl
theorem yc_X12_bits : AYc yX12_bits cX12_bits 3 (some .int) 1 := ⟨am_in 134 (by decide +kernel) rfl, am_in 1717 (by decide +kernel) rfl, ⟨by decide +kernel, by decide +kernel, by decide +kernel⟩, by decide⟩
theorem ys_X12_bits : Cond.static yX12_bits ∈ am_tbl := am_in 1716 (by decide +kernel) rfl
theorem yc_X12_four : AYc yX12_four cX12_four 3 none 1 := ⟨am_in 134 (by decide +kernel) rfl, am_in 1338 (by decide +kernel) rfl, ⟨by decide +kernel, by decide +kernel, by decide +kernel⟩, by decide⟩
theorem yv_X12_four : AYv yX12_four 11 := ⟨am_in 1337 (by decide +kernel) rfl, am_in 40 (by decide +kernel) rfl, _, rfl, rfl, by decide⟩
theorem yc_X12_feed : AYc yX12_feed cX12_feed 6 (some .int) 5 := ⟨am_in 134 (by decide +kernel) rfl, am_in 1334 (by decide +kernel) rfl, ⟨by decide +kernel, by decide +kernel, by decide +kernel⟩, by decide⟩
theorem yv_X12_feed : AYv yX12_feed 11 := ⟨am_in 1332 (by decide +kernel) rfl, am_in 1333 (by decide +kernel) rfl, _, rfl, rfl, by decide⟩
theorem yc_X12_end : AYc yX12_end cX12_end 2 (some .int) 1 := ⟨am_in 134 (by decide +kernel) rfl, am_in 1342 (by decide +kernel) rfl, ⟨by decide +kernel, by decide +kernel, by decide +kernel⟩, by decide⟩
theorem yv_X12_end : AYv yX12_end 11 := ⟨am_in 1340 (by decide +kernel) rfl, am_in 1341 (by decide +kernel) rfl, _, rfl, rfl, by decide⟩
theorem yc_X12_fails : AYc yX12_fails cX12_fails 3 (some .boolean) 2 := ⟨am_in 134 (by decide +kernel) rfl, am_in 1384 (by decide +kernel) rfl, ⟨by decide +kernel, by decide +kernel, by decide +kernel⟩, by decide⟩
theorem yv_X12_fails : AYv yX12_fails 11 := ⟨am_in 1383 (by decide +kernel) rfl, am_in 47 (by decide +kernel) rfl, _, rfl, rfl, by decide⟩
theorem yc_X12_see : AYc yX12_see cX12_see 1 (some .int) 0 := ⟨am_in 134 (by decide +kernel) rfl, am_in 1358 (by decide +kernel) rfl, ⟨by decide +kernel, by decide +kernel, by decide +kernel⟩, by decide⟩
theorem yv_X12_see : AYv yX12_see 11 := ⟨am_in 1357 (by decide +kernel) rfl, am_in 43 (by decide +kernel) rfl, _, rfl, rfl, by decide⟩
theorem yc_X12_isDigit : AYc yX12_isDigit cX12_isDigit 2 (some .boolean) 1 := ⟨am_in 134 (by decide +kernel) rfl, am_in 1408 (by decide +kernel) rfl, ⟨by decide +kernel, by decide +kernel, by decide +kernel⟩, by decide⟩
theorem yv_X12_isDigit : AYv yX12_isDigit 11 := ⟨am_in 1407 (by decide +kernel) rfl, am_in 53 (by decide +kernel) rfl, _, rfl, rfl, by decide⟩
theorem yc_X12_isLetter : AYc yX12_isLetter cX12_isLetter 2 (some .boolean) 1 := ⟨am_in 134 (by decide +kernel) rfl, am_in 1371 (by decide +kernel) rfl, ⟨by decide +kernel, by decide +kernel, by decide +kernel⟩, by decide⟩
theorem yv_X12_isLetter : AYv yX12_isLetter 11 := ⟨am_in 1370 (by decide +kernel) rfl, am_in 46 (by decide +kernel) rfl, _, rfl, rfl, by decide⟩
theorem yc_X12_isWord : AYc yX12_isWord cX12_isWord 6 (some .boolean) 1 := ⟨am_in 134 (by decide +kernel) rfl, am_in 1367 (by decide +kernel) rfl, ⟨by decide +kernel, by decide +kernel, by decide +kernel⟩, by decide⟩
theorem yv_X12_isWord : AYv yX12_isWord 11 := ⟨am_in 1366 (by decide +kernel) rfl, am_in 45 (by decide +kernel) rfl, _, rfl, rfl, by decide⟩
theorem yc_X12_passWord : AYc yX12_passWord cX12_passWord 1 none 0 := ⟨am_in 134 (by decide +kernel) rfl, am_in 1396 (by decide +kernel) rfl, ⟨by decide +kernel, by decide +kernel, by decide +kernel⟩, by decide⟩
theorem yv_X12_passWord : AYv yX12_passWord 11 := ⟨am_in 1395 (by decide +kernel) rfl, am_in 50 (by decide +kernel) rfl, _, rfl, rfl, by decide⟩
theorem yc_X12_takesWord : AYc yX12_takesWord cX12_takesWord 3 (some .boolean) 1 := ⟨am_in 134 (by decide +kernel) rfl, am_in 1494 (by decide +kernel) rfl, ⟨by decide +kernel, by decide +kernel, by decide +kernel⟩, by decide⟩
theorem yv_X12_takesWord : AYv yX12_takesWord 11 := ⟨am_in 1493 (by decide +kernel) rfl, am_in 70 (by decide +kernel) rfl, _, rfl, rfl, by decide⟩
theorem yc_X12_numberHere : AYc yX12_numberHere cX12_numberHere 5 (some .boolean) 2 := ⟨am_in 134 (by decide +kernel) rfl, am_in 1404 (by decide +kernel) rfl, ⟨by decide +kernel, by decide +kernel, by decide +kernel⟩, by decide⟩
theorem yv_X12_numberHere : AYv yX12_numberHere 11 := ⟨am_in 1403 (by decide +kernel) rfl, am_in 52 (by decide +kernel) rfl, _, rfl, rfl, by decide⟩
theorem yc_X12_wordHere : AYc yX12_wordHere cX12_wordHere 1 (some .int) 0 := ⟨am_in 134 (by decide +kernel) rfl, am_in 1479 (by decide +kernel) rfl, ⟨by decide +kernel, by decide +kernel, by decide +kernel⟩, by decide⟩
theorem yv_X12_wordHere : AYv yX12_wordHere 11 := ⟨am_in 1478 (by decide +kernel) rfl, am_in 69 (by decide +kernel) rfl, _, rfl, rfl, by decide⟩
theorem yc_X12_puts : AYc yX12_puts cX12_puts 3 none 2 := ⟨am_in 134 (by decide +kernel) rfl, am_in 1475 (by decide +kernel) rfl, ⟨by decide +kernel, by decide +kernel, by decide +kernel⟩, by decide⟩
theorem yv_X12_puts : AYv yX12_puts 11 := ⟨am_in 1474 (by decide +kernel) rfl, am_in 68 (by decide +kernel) rfl, _, rfl, rfl, by decide⟩
theorem yc_X12_makes : AYc yX12_makes cX12_makes 2 (some .boolean) 1 := ⟨am_in 134 (by decide +kernel) rfl, am_in 1471 (by decide +kernel) rfl, ⟨by decide +kernel, by decide +kernel, by decide +kernel⟩, by decide⟩
theorem yv_X12_makes : AYv yX12_makes 11 := ⟨am_in 1470 (by decide +kernel) rfl, am_in 67 (by decide +kernel) rfl, _, rfl, rfl, by decide⟩
theorem yc_X12_opens : AYc yX12_opens cX12_opens 2 (some .boolean) 1 := ⟨am_in 134 (by decide +kernel) rfl, am_in 1507 (by decide +kernel) rfl, ⟨by decide +kernel, by decide +kernel, by decide +kernel⟩, by decide⟩
theorem yv_X12_opens : AYv yX12_opens 11 := ⟨am_in 1506 (by decide +kernel) rfl, am_in 73 (by decide +kernel) rfl, _, rfl, rfl, by decide⟩
theorem yc_X12_strength : AYc yX12_strength cX12_strength 1 (some .int) 1 := ⟨am_in 134 (by decide +kernel) rfl, am_in 1522 (by decide +kernel) rfl, ⟨by decide +kernel, by decide +kernel, by decide +kernel⟩, by decide⟩
theorem ys_X12_strength : Cond.static yX12_strength ∈ am_tbl := am_in 1521 (by decide +kernel) rfl
theorem yc_X12_settles : AYc yX12_settles cX12_settles 2 none 1 := ⟨am_in 134 (by decide +kernel) rfl, am_in 1519 (by decide +kernel) rfl, ⟨by decide +kernel, by decide +kernel, by decide +kernel⟩, by decide⟩
theorem yv_X12_settles : AYv yX12_settles 11 := ⟨am_in 1518 (by decide +kernel) rfl, am_in 76 (by decide +kernel) rfl, _, rfl, rfl, by decide⟩
theorem yc_X12_value : AYc yX12_value cX12_value 3 (some .boolean) 0 := ⟨am_in 134 (by decide +kernel) rfl, am_in 1466 (by decide +kernel) rfl, ⟨by decide +kernel, by decide +kernel, by decide +kernel⟩, by decide⟩
theorem yv_X12_value : AYv yX12_value 11 := ⟨am_in 1465 (by decide +kernel) rfl, am_in 66 (by decide +kernel) rfl, _, rfl, rfl, by decide⟩
theorem yc_X12_term : AYc yX12_term cX12_term 2 (some .boolean) 0 := ⟨am_in 134 (by decide +kernel) rfl, am_in 1462 (by decide +kernel) rfl, ⟨by decide +kernel, by decide +kernel, by decide +kernel⟩, by decide⟩
theorem yv_X12_term : AYv yX12_term 11 := ⟨am_in 1461 (by decide +kernel) rfl, am_in 65 (by decide +kernel) rfl, _, rfl, rfl, by decide⟩
theorem yc_X12_sum : AYc yX12_sum cX12_sum 2 (some .boolean) 0 := ⟨am_in 134 (by decide +kernel) rfl, am_in 1458 (by decide +kernel) rfl, ⟨by decide +kernel, by decide +kernel, by decide +kernel⟩, by decide⟩
theorem yv_X12_sum : AYv yX12_sum 11 := ⟨am_in 1457 (by decide +kernel) rfl, am_in 64 (by decide +kernel) rfl, _, rfl, rfl, by decide⟩
theorem yc_X12_compare : AYc yX12_compare cX12_compare 5 (some .boolean) 0 := ⟨am_in 134 (by decide +kernel) rfl, am_in 1511 (by decide +kernel) rfl, ⟨by decide +kernel, by decide +kernel, by decide +kernel⟩, by decide⟩
theorem yv_X12_compare : AYv yX12_compare 11 := ⟨am_in 1510 (by decide +kernel) rfl, am_in 74 (by decide +kernel) rfl, _, rfl, rfl, by decide⟩
theorem yc_X12_fact : AYc yX12_fact cX12_fact 3 (some .boolean) 0 := ⟨am_in 134 (by decide +kernel) rfl, am_in 1502 (by decide +kernel) rfl, ⟨by decide +kernel, by decide +kernel, by decide +kernel⟩, by decide⟩
theorem yv_X12_fact : AYv yX12_fact 11 := ⟨am_in 1501 (by decide +kernel) rfl, am_in 72 (by decide +kernel) rfl, _, rfl, rfl, by decide⟩
theorem yc_X12_isInside : AYc yX12_isInside cX12_isInside 2 (some .boolean) 0 := ⟨am_in 134 (by decide +kernel) rfl, am_in 1526 (by decide +kernel) rfl, ⟨by decide +kernel, by decide +kernel, by decide +kernel⟩, by decide⟩
theorem yv_X12_isInside : AYv yX12_isInside 11 := ⟨am_in 1525 (by decide +kernel) rfl, am_in 77 (by decide +kernel) rfl, _, rfl, rfl, by decide⟩
theorem yc_X12_closes : AYc yX12_closes cX12_closes 1 none 0 := ⟨am_in 134 (by decide +kernel) rfl, am_in 1515 (by decide +kernel) rfl, ⟨by decide +kernel, by decide +kernel, by decide +kernel⟩, by decide⟩
theorem yv_X12_closes : AYv yX12_closes 11 := ⟨am_in 1514 (by decide +kernel) rfl, am_in 75 (by decide +kernel) rfl, _, rfl, rfl, by decide⟩
theorem yc_X12_tested : AYc yX12_tested cX12_tested 3 (some .boolean) 0 := ⟨am_in 134 (by decide +kernel) rfl, am_in 1498 (by decide +kernel) rfl, ⟨by decide +kernel, by decide +kernel, by decide +kernel⟩, by decide⟩
theorem yv_X12_tested : AYv yX12_tested 11 := ⟨am_in 1497 (by decide +kernel) rfl, am_in 71 (by decide +kernel) rfl, _, rfl, rfl, by decide⟩
theorem yc_X12_isDoingHere : AYc yX12_isDoingHere cX12_isDoingHere 3 (some .boolean) 1 := ⟨am_in 134 (by decide +kernel) rfl, am_in 1454 (by decide +kernel) rfl, ⟨by decide +kernel, by decide +kernel, by decide +kernel⟩, by decide⟩
theorem yv_X12_isDoingHere : AYv yX12_isDoingHere 11 := ⟨am_in 1453 (by decide +kernel) rfl, am_in 63 (by decide +kernel) rfl, _, rfl, rfl, by decide⟩
theorem yc_X12_cellHere : AYc yX12_cellHere cX12_cellHere 4 (some .boolean) 3 := ⟨am_in 134 (by decide +kernel) rfl, am_in 1400 (by decide +kernel) rfl, ⟨by decide +kernel, by decide +kernel, by decide +kernel⟩, by decide⟩
theorem yv_X12_cellHere : AYv yX12_cellHere 11 := ⟨am_in 1399 (by decide +kernel) rfl, am_in 51 (by decide +kernel) rfl, _, rfl, rfl, by decide⟩
theorem yc_X12_otherHere : AYc yX12_otherHere cX12_otherHere 5 (some .boolean) 3 := ⟨am_in 134 (by decide +kernel) rfl, am_in 1426 (by decide +kernel) rfl, ⟨by decide +kernel, by decide +kernel, by decide +kernel⟩, by decide⟩
theorem yv_X12_otherHere : AYv yX12_otherHere 11 := ⟨am_in 1425 (by decide +kernel) rfl, am_in 56 (by decide +kernel) rfl, _, rfl, rfl, by decide⟩
theorem yc_X12_areFactsHere : AYc yX12_areFactsHere cX12_areFactsHere 3 (some .boolean) 1 := ⟨am_in 134 (by decide +kernel) rfl, am_in 1392 (by decide +kernel) rfl, ⟨by decide +kernel, by decide +kernel, by decide +kernel⟩, by decide⟩
theorem yv_X12_areFactsHere : AYv yX12_areFactsHere 11 := ⟨am_in 1391 (by decide +kernel) rfl, am_in 49 (by decide +kernel) rfl, _, rfl, rfl, by decide⟩
theorem yc_X12_isPersonHere : AYc yX12_isPersonHere cX12_isPersonHere 4 (some .boolean) 1 := ⟨am_in 134 (by decide +kernel) rfl, am_in 1415 (by decide +kernel) rfl, ⟨by decide +kernel, by decide +kernel, by decide +kernel⟩, by decide⟩
theorem yv_X12_isPersonHere : AYv yX12_isPersonHere 11 := ⟨am_in 1414 (by decide +kernel) rfl, am_in 54 (by decide +kernel) rfl, _, rfl, rfl, by decide⟩
theorem yc_X12_isTrustHere : AYc yX12_isTrustHere cX12_isTrustHere 1 (some .boolean) 0 := ⟨am_in 134 (by decide +kernel) rfl, am_in 1422 (by decide +kernel) rfl, ⟨by decide +kernel, by decide +kernel, by decide +kernel⟩, by decide⟩
theorem yv_X12_isTrustHere : AYv yX12_isTrustHere 11 := ⟨am_in 1421 (by decide +kernel) rfl, am_in 55 (by decide +kernel) rfl, _, rfl, rfl, by decide⟩
theorem yc_X12_readStreet : AYc yX12_readStreet cX12_readStreet 6 (some .int) 2 := ⟨am_in 134 (by decide +kernel) rfl, am_in 1434 (by decide +kernel) rfl, ⟨by decide +kernel, by decide +kernel, by decide +kernel⟩, by decide⟩
theorem yv_X12_readStreet : AYv yX12_readStreet 11 := ⟨am_in 1433 (by decide +kernel) rfl, am_in 58 (by decide +kernel) rfl, _, rfl, rfl, by decide⟩
theorem yc_X12_isStreetHere : AYc yX12_isStreetHere cX12_isStreetHere 4 (some .boolean) 1 := ⟨am_in 134 (by decide +kernel) rfl, am_in 1430 (by decide +kernel) rfl, ⟨by decide +kernel, by decide +kernel, by decide +kernel⟩, by decide⟩
theorem yv_X12_isStreetHere : AYv yX12_isStreetHere 11 := ⟨am_in 1429 (by decide +kernel) rfl, am_in 57 (by decide +kernel) rfl, _, rfl, rfl, by decide⟩
theorem yc_X12_isIfHere : AYc yX12_isIfHere cX12_isIfHere 3 (some .boolean) 1 := ⟨am_in 134 (by decide +kernel) rfl, am_in 1438 (by decide +kernel) rfl, ⟨by decide +kernel, by decide +kernel, by decide +kernel⟩, by decide⟩
theorem yv_X12_isIfHere : AYv yX12_isIfHere 11 := ⟨am_in 1437 (by decide +kernel) rfl, am_in 59 (by decide +kernel) rfl, _, rfl, rfl, by decide⟩
theorem yc_X12_isHarmHere : AYc yX12_isHarmHere cX12_isHarmHere 3 (some .boolean) 1 := ⟨am_in 134 (by decide +kernel) rfl, am_in 1442 (by decide +kernel) rfl, ⟨by decide +kernel, by decide +kernel, by decide +kernel⟩, by decide⟩
theorem yv_X12_isHarmHere : AYv yX12_isHarmHere 11 := ⟨am_in 1441 (by decide +kernel) rfl, am_in 60 (by decide +kernel) rfl, _, rfl, rfl, by decide⟩
theorem yc_X12_isChildHere : AYc yX12_isChildHere cX12_isChildHere 1 (some .boolean) 0 := ⟨am_in 134 (by decide +kernel) rfl, am_in 1446 (by decide +kernel) rfl, ⟨by decide +kernel, by decide +kernel, by decide +kernel⟩, by decide⟩
theorem yv_X12_isChildHere : AYv yX12_isChildHere 11 := ⟨am_in 1445 (by decide +kernel) rfl, am_in 61 (by decide +kernel) rfl, _, rfl, rfl, by decide⟩
theorem yc_X12_isCorrectHere : AYc yX12_isCorrectHere cX12_isCorrectHere 2 (some .boolean) 1 := ⟨am_in 134 (by decide +kernel) rfl, am_in 1450 (by decide +kernel) rfl, ⟨by decide +kernel, by decide +kernel, by decide +kernel⟩, by decide⟩
theorem yv_X12_isCorrectHere : AYv yX12_isCorrectHere 11 := ⟨am_in 1449 (by decide +kernel) rfl, am_in 62 (by decide +kernel) rfl, _, rfl, rfl, by decide⟩
theorem yc_X12_townLineHere : AYc yX12_townLineHere cX12_townLineHere 2 (some .boolean) 1 := ⟨am_in 134 (by decide +kernel) rfl, am_in 1388 (by decide +kernel) rfl, ⟨by decide +kernel, by decide +kernel, by decide +kernel⟩, by decide⟩
theorem yv_X12_townLineHere : AYv yX12_townLineHere 11 := ⟨am_in 1387 (by decide +kernel) rfl, am_in 48 (by decide +kernel) rfl, _, rfl, rfl, by decide⟩
theorem yc_X12_isTownWord : AYc yX12_isTownWord cX12_isTownWord 2 (some .boolean) 0 := ⟨am_in 134 (by decide +kernel) rfl, am_in 1362 (by decide +kernel) rfl, ⟨by decide +kernel, by decide +kernel, by decide +kernel⟩, by decide⟩
theorem yv_X12_isTownWord : AYv yX12_isTownWord 11 := ⟨am_in 1361 (by decide +kernel) rfl, am_in 44 (by decide +kernel) rfl, _, rfl, rfl, by decide⟩
theorem yc_X12_clauseHere : AYc yX12_clauseHere cX12_clauseHere 3 (some .boolean) 0 := ⟨am_in 134 (by decide +kernel) rfl, am_in 1354 (by decide +kernel) rfl, ⟨by decide +kernel, by decide +kernel, by decide +kernel⟩, by decide⟩
theorem yv_X12_clauseHere : AYv yX12_clauseHere 11 := ⟨am_in 1353 (by decide +kernel) rfl, am_in 42 (by decide +kernel) rfl, _, rfl, rfl, by decide⟩
theorem yc_X12_readsAll : AYc yX12_readsAll cX12_readsAll 2 (some .boolean) 0 := ⟨am_in 134 (by decide +kernel) rfl, am_in 1350 (by decide +kernel) rfl, ⟨by decide +kernel, by decide +kernel, by decide +kernel⟩, by decide⟩
theorem yv_X12_readsAll : AYv yX12_readsAll 11 := ⟨am_in 1349 (by decide +kernel) rfl, am_in 41 (by decide +kernel) rfl, _, rfl, rfl, by decide⟩
theorem yc_X12_rule : AYc yX12_rule cX12_rule 1 (some .int) 0 := ⟨am_in 134 (by decide +kernel) rfl, am_in 1346 (by decide +kernel) rfl, ⟨by decide +kernel, by decide +kernel, by decide +kernel⟩, by decide⟩
theorem yv_X12_rule : AYv yX12_rule 11 := ⟨am_in 1344 (by decide +kernel) rfl, am_in 1345 (by decide +kernel) rfl, _, rfl, rfl, by decide⟩
theorem yc_X12_town : AYc yX12_town cX12_town 2 (some .int) 0 := ⟨am_in 134 (by decide +kernel) rfl, am_in 1532 (by decide +kernel) rfl, ⟨by decide +kernel, by decide +kernel, by decide +kernel⟩, by decide⟩
theorem yv_X12_town : AYv yX12_town 11 := ⟨am_in 1530 (by decide +kernel) rfl, am_in 1531 (by decide +kernel) rfl, _, rfl, rfl, by decide⟩
theorem yc_X12_isRule : AYc yX12_isRule cX12_isRule 2 (some .boolean) 1 := ⟨am_in 134 (by decide +kernel) rfl, am_in 1540 (by decide +kernel) rfl, ⟨by decide +kernel, by decide +kernel, by decide +kernel⟩, by decide⟩
theorem yv_X12_isRule : AYv yX12_isRule 11 := ⟨am_in 1539 (by decide +kernel) rfl, am_in 78 (by decide +kernel) rfl, _, rfl, rfl, by decide⟩
theorem yc_X12_push : AYc yX12_push cX12_push 3 none 1 := ⟨am_in 134 (by decide +kernel) rfl, am_in 1650 (by decide +kernel) rfl, ⟨by decide +kernel, by decide +kernel, by decide +kernel⟩, by decide⟩
theorem yv_X12_push : AYv yX12_push 11 := ⟨am_in 1649 (by decide +kernel) rfl, am_in 100 (by decide +kernel) rfl, _, rfl, rfl, by decide⟩
theorem yc_X12_pop : AYc yX12_pop cX12_pop 1 (some .long) 0 := ⟨am_in 134 (by decide +kernel) rfl, am_in 1654 (by decide +kernel) rfl, ⟨by decide +kernel, by decide +kernel, by decide +kernel⟩, by decide⟩
theorem yv_X12_pop : AYv yX12_pop 11 := ⟨am_in 1653 (by decide +kernel) rfl, am_in 101 (by decide +kernel) rfl, _, rfl, rfl, by decide⟩
theorem yc_X12_one : AYc yX12_one cX12_one 5 (some .long) 3 := ⟨am_in 134 (by decide +kernel) rfl, am_in 1657 (by decide +kernel) rfl, ⟨by decide +kernel, by decide +kernel, by decide +kernel⟩, by decide⟩
theorem ys_X12_one : Cond.static yX12_one ∈ am_tbl := am_in 1656 (by decide +kernel) rfl
theorem yc_X12_reckons : AYc yX12_reckons cX12_reckons 11 (some .long) 3 := ⟨am_in 134 (by decide +kernel) rfl, am_in 1646 (by decide +kernel) rfl, ⟨by decide +kernel, by decide +kernel, by decide +kernel⟩, by decide⟩
theorem yv_X12_reckons : AYv yX12_reckons 11 := ⟨am_in 1645 (by decide +kernel) rfl, am_in 99 (by decide +kernel) rfl, _, rfl, rfl, by decide⟩
theorem yc_X12_isTown : AYc yX12_isTown cX12_isTown 1 (some .boolean) 0 := ⟨am_in 134 (by decide +kernel) rfl, am_in 1685 (by decide +kernel) rfl, ⟨by decide +kernel, by decide +kernel, by decide +kernel⟩, by decide⟩
theorem yv_X12_isTown : AYv yX12_isTown 11 := ⟨am_in 1684 (by decide +kernel) rfl, am_in 105 (by decide +kernel) rfl, _, rfl, rfl, by decide⟩
theorem yc_X12_isFact : AYc yX12_isFact cX12_isFact 2 (some .boolean) 1 := ⟨am_in 134 (by decide +kernel) rfl, am_in 1552 (by decide +kernel) rfl, ⟨by decide +kernel, by decide +kernel, by decide +kernel⟩, by decide⟩
theorem yv_X12_isFact : AYv yX12_isFact 11 := ⟨am_in 1551 (by decide +kernel) rfl, am_in 80 (by decide +kernel) rfl, _, rfl, rfl, by decide⟩
theorem yc_X12_isPerson : AYc yX12_isPerson cX12_isPerson 2 (some .boolean) 1 := ⟨am_in 134 (by decide +kernel) rfl, am_in 1548 (by decide +kernel) rfl, ⟨by decide +kernel, by decide +kernel, by decide +kernel⟩, by decide⟩
theorem yv_X12_isPerson : AYv yX12_isPerson 11 := ⟨am_in 1547 (by decide +kernel) rfl, am_in 79 (by decide +kernel) rfl, _, rfl, rfl, by decide⟩
theorem yc_X12_soOf : AYc yX12_soOf cX12_soOf 2 (some .int) 1 := ⟨am_in 134 (by decide +kernel) rfl, am_in 1634 (by decide +kernel) rfl, ⟨by decide +kernel, by decide +kernel, by decide +kernel⟩, by decide⟩
theorem yv_X12_soOf : AYv yX12_soOf 11 := ⟨am_in 1633 (by decide +kernel) rfl, am_in 96 (by decide +kernel) rfl, _, rfl, rfl, by decide⟩
theorem yc_X12_holdOf : AYc yX12_holdOf cX12_holdOf 3 (some .int) 2 := ⟨am_in 134 (by decide +kernel) rfl, am_in 1557 (by decide +kernel) rfl, ⟨by decide +kernel, by decide +kernel, by decide +kernel⟩, by decide⟩
theorem yv_X12_holdOf : AYv yX12_holdOf 11 := ⟨am_in 1556 (by decide +kernel) rfl, am_in 81 (by decide +kernel) rfl, _, rfl, rfl, by decide⟩
theorem yc_X12_strengthOf : AYc yX12_strengthOf cX12_strengthOf 3 (some .int) 2 := ⟨am_in 134 (by decide +kernel) rfl, am_in 1561 (by decide +kernel) rfl, ⟨by decide +kernel, by decide +kernel, by decide +kernel⟩, by decide⟩
theorem yv_X12_strengthOf : AYv yX12_strengthOf 11 := ⟨am_in 1560 (by decide +kernel) rfl, am_in 82 (by decide +kernel) rfl, _, rfl, rfl, by decide⟩
theorem yc_X12_holdsNow : AYc yX12_holdsNow cX12_holdsNow 5 none 4 := ⟨am_in 134 (by decide +kernel) rfl, am_in 1665 (by decide +kernel) rfl, ⟨by decide +kernel, by decide +kernel, by decide +kernel⟩, by decide⟩
theorem yv_X12_holdsNow : AYv yX12_holdsNow 11 := ⟨am_in 1664 (by decide +kernel) rfl, am_in 103 (by decide +kernel) rfl, _, rfl, rfl, by decide⟩
theorem yc_X12_trustOf : AYc yX12_trustOf cX12_trustOf 3 (some .int) 2 := ⟨am_in 134 (by decide +kernel) rfl, am_in 1602 (by decide +kernel) rfl, ⟨by decide +kernel, by decide +kernel, by decide +kernel⟩, by decide⟩
theorem yv_X12_trustOf : AYv yX12_trustOf 11 := ⟨am_in 1601 (by decide +kernel) rfl, am_in 90 (by decide +kernel) rfl, _, rfl, rfl, by decide⟩
theorem yc_X12_streetOf : AYc yX12_streetOf cX12_streetOf 6 (some .int) 2 := ⟨am_in 134 (by decide +kernel) rfl, am_in 1594 (by decide +kernel) rfl, ⟨by decide +kernel, by decide +kernel, by decide +kernel⟩, by decide⟩
theorem yv_X12_streetOf : AYv yX12_streetOf 11 := ⟨am_in 1593 (by decide +kernel) rfl, am_in 89 (by decide +kernel) rfl, _, rfl, rfl, by decide⟩
theorem yc_X12_besides : AYc yX12_besides cX12_besides 4 (some .int) 1 := ⟨am_in 134 (by decide +kernel) rfl, am_in 1590 (by decide +kernel) rfl, ⟨by decide +kernel, by decide +kernel, by decide +kernel⟩, by decide⟩
theorem yv_X12_besides : AYv yX12_besides 11 := ⟨am_in 1589 (by decide +kernel) rfl, am_in 88 (by decide +kernel) rfl, _, rfl, rfl, by decide⟩
theorem yc_X12_charter : AYc yX12_charter cX12_charter 3 (some .int) 1 := ⟨am_in 134 (by decide +kernel) rfl, am_in 1536 (by decide +kernel) rfl, ⟨by decide +kernel, by decide +kernel, by decide +kernel⟩, by decide⟩
theorem yv_X12_charter : AYv yX12_charter 11 := ⟨am_in 1534 (by decide +kernel) rfl, am_in 1535 (by decide +kernel) rfl, _, rfl, rfl, by decide⟩
theorem yc_X12_isIfOpen : AYc yX12_isIfOpen cX12_isIfOpen 3 (some .boolean) 1 := ⟨am_in 134 (by decide +kernel) rfl, am_in 1573 (by decide +kernel) rfl, ⟨by decide +kernel, by decide +kernel, by decide +kernel⟩, by decide⟩
theorem yv_X12_isIfOpen : AYv yX12_isIfOpen 11 := ⟨am_in 1572 (by decide +kernel) rfl, am_in 85 (by decide +kernel) rfl, _, rfl, rfl, by decide⟩
theorem yc_X12_believes : AYc yX12_believes cX12_believes 3 none 1 := ⟨am_in 134 (by decide +kernel) rfl, am_in 1569 (by decide +kernel) rfl, ⟨by decide +kernel, by decide +kernel, by decide +kernel⟩, by decide⟩
theorem yv_X12_believes : AYv yX12_believes 11 := ⟨am_in 1568 (by decide +kernel) rfl, am_in 84 (by decide +kernel) rfl, _, rfl, rfl, by decide⟩
theorem yc_X12_contradictions : AYc yX12_contradictions cX12_contradictions 4 (some .int) 0 := ⟨am_in 134 (by decide +kernel) rfl, am_in 1586 (by decide +kernel) rfl, ⟨by decide +kernel, by decide +kernel, by decide +kernel⟩, by decide⟩
theorem yv_X12_contradictions : AYv yX12_contradictions 11 := ⟨am_in 1585 (by decide +kernel) rfl, am_in 87 (by decide +kernel) rfl, _, rfl, rfl, by decide⟩
theorem yc_X12_harmBelieved : AYc yX12_harmBelieved cX12_harmBelieved 3 (some .int) 0 := ⟨am_in 134 (by decide +kernel) rfl, am_in 1582 (by decide +kernel) rfl, ⟨by decide +kernel, by decide +kernel, by decide +kernel⟩, by decide⟩
theorem yv_X12_harmBelieved : AYv yX12_harmBelieved 11 := ⟨am_in 1581 (by decide +kernel) rfl, am_in 86 (by decide +kernel) rfl, _, rfl, rfl, by decide⟩
theorem yc_X12_harmOf : AYc yX12_harmOf cX12_harmOf 2 (some .int) 1 := ⟨am_in 134 (by decide +kernel) rfl, am_in 1737 (by decide +kernel) rfl, ⟨by decide +kernel, by decide +kernel, by decide +kernel⟩, by decide⟩
theorem yv_X12_harmOf : AYv yX12_harmOf 11 := ⟨am_in 1736 (by decide +kernel) rfl, am_in 112 (by decide +kernel) rfl, _, rfl, rfl, by decide⟩
theorem yc_X12_harmAlone : AYc yX12_harmAlone cX12_harmAlone 5 (some .int) 2 := ⟨am_in 134 (by decide +kernel) rfl, am_in 1642 (by decide +kernel) rfl, ⟨by decide +kernel, by decide +kernel, by decide +kernel⟩, by decide⟩
theorem yv_X12_harmAlone : AYv yX12_harmAlone 11 := ⟨am_in 1641 (by decide +kernel) rfl, am_in 98 (by decide +kernel) rfl, _, rfl, rfl, by decide⟩
theorem yc_X12_believedOf : AYc yX12_believedOf cX12_believedOf 3 (some .int) 2 := ⟨am_in 134 (by decide +kernel) rfl, am_in 1565 (by decide +kernel) rfl, ⟨by decide +kernel, by decide +kernel, by decide +kernel⟩, by decide⟩
theorem yv_X12_believedOf : AYv yX12_believedOf 11 := ⟨am_in 1564 (by decide +kernel) rfl, am_in 83 (by decide +kernel) rfl, _, rfl, rfl, by decide⟩
theorem yc_X12_holds : AYc yX12_holds cX12_holds 4 (some .int) 3 := ⟨am_in 134 (by decide +kernel) rfl, am_in 1544 (by decide +kernel) rfl, ⟨by decide +kernel, by decide +kernel, by decide +kernel⟩, by decide⟩
theorem yv_X12_holds : AYv yX12_holds 11 := ⟨am_in 1542 (by decide +kernel) rfl, am_in 1543 (by decide +kernel) rfl, _, rfl, rfl, by decide⟩
theorem yc_X12_person : AYc yX12_person cX12_person 3 (some .int) 2 := ⟨am_in 134 (by decide +kernel) rfl, am_in 1577 (by decide +kernel) rfl, ⟨by decide +kernel, by decide +kernel, by decide +kernel⟩, by decide⟩
theorem yv_X12_person : AYv yX12_person 11 := ⟨am_in 1575 (by decide +kernel) rfl, am_in 1576 (by decide +kernel) rfl, _, rfl, rfl, by decide⟩
theorem yc_X12_trust : AYc yX12_trust cX12_trust 3 (some .int) 2 := ⟨am_in 134 (by decide +kernel) rfl, am_in 1598 (by decide +kernel) rfl, ⟨by decide +kernel, by decide +kernel, by decide +kernel⟩, by decide⟩
theorem yv_X12_trust : AYv yX12_trust 11 := ⟨am_in 1596 (by decide +kernel) rfl, am_in 1597 (by decide +kernel) rfl, _, rfl, rfl, by decide⟩
theorem yc_X12_words : AYc yX12_words cX12_words 6 none 5 := ⟨am_in 134 (by decide +kernel) rfl, am_in 1638 (by decide +kernel) rfl, ⟨by decide +kernel, by decide +kernel, by decide +kernel⟩, by decide⟩
theorem yv_X12_words : AYv yX12_words 11 := ⟨am_in 1637 (by decide +kernel) rfl, am_in 97 (by decide +kernel) rfl, _, rfl, rfl, by decide⟩
theorem yc_X12_hasLies : AYc yX12_hasLies cX12_hasLies 3 (some .boolean) 1 := ⟨am_in 134 (by decide +kernel) rfl, am_in 1630 (by decide +kernel) rfl, ⟨by decide +kernel, by decide +kernel, by decide +kernel⟩, by decide⟩
theorem yv_X12_hasLies : AYv yX12_hasLies 11 := ⟨am_in 1629 (by decide +kernel) rfl, am_in 95 (by decide +kernel) rfl, _, rfl, rfl, by decide⟩
theorem yc_X12_isLie : AYc yX12_isLie cX12_isLie 8 (some .boolean) 5 := ⟨am_in 134 (by decide +kernel) rfl, am_in 1626 (by decide +kernel) rfl, ⟨by decide +kernel, by decide +kernel, by decide +kernel⟩, by decide⟩
theorem yv_X12_isLie : AYv yX12_isLie 11 := ⟨am_in 1625 (by decide +kernel) rfl, am_in 94 (by decide +kernel) rfl, _, rfl, rfl, by decide⟩
theorem yc_X12_isTold : AYc yX12_isTold cX12_isTold 6 none 4 := ⟨am_in 134 (by decide +kernel) rfl, am_in 1661 (by decide +kernel) rfl, ⟨by decide +kernel, by decide +kernel, by decide +kernel⟩, by decide⟩
theorem yv_X12_isTold : AYv yX12_isTold 11 := ⟨am_in 1660 (by decide +kernel) rfl, am_in 102 (by decide +kernel) rfl, _, rfl, rfl, by decide⟩
theorem yc_X12_says : AYc yX12_says cX12_says 7 (some .int) 5 := ⟨am_in 134 (by decide +kernel) rfl, am_in 1622 (by decide +kernel) rfl, ⟨by decide +kernel, by decide +kernel, by decide +kernel⟩, by decide⟩
theorem yv_X12_says : AYv yX12_says 11 := ⟨am_in 1621 (by decide +kernel) rfl, am_in 93 (by decide +kernel) rfl, _, rfl, rfl, by decide⟩
theorem yc_X12_maySay : AYc yX12_maySay cX12_maySay 5 (some .boolean) 4 := ⟨am_in 134 (by decide +kernel) rfl, am_in 1614 (by decide +kernel) rfl, ⟨by decide +kernel, by decide +kernel, by decide +kernel⟩, by decide⟩
theorem yv_X12_maySay : AYv yX12_maySay 11 := ⟨am_in 1613 (by decide +kernel) rfl, am_in 91 (by decide +kernel) rfl, _, rfl, rfl, by decide⟩
theorem yc_X12_keepsAct : AYc yX12_keepsAct cX12_keepsAct 2 none 0 := ⟨am_in 134 (by decide +kernel) rfl, am_in 1618 (by decide +kernel) rfl, ⟨by decide +kernel, by decide +kernel, by decide +kernel⟩, by decide⟩
theorem yv_X12_keepsAct : AYv yX12_keepsAct 11 := ⟨am_in 1617 (by decide +kernel) rfl, am_in 92 (by decide +kernel) rfl, _, rfl, rfl, by decide⟩
theorem yc_X12_undo : AYc yX12_undo cX12_undo 2 (some .int) 0 := ⟨am_in 134 (by decide +kernel) rfl, am_in 1606 (by decide +kernel) rfl, ⟨by decide +kernel, by decide +kernel, by decide +kernel⟩, by decide⟩
theorem yv_X12_undo : AYv yX12_undo 11 := ⟨am_in 1604 (by decide +kernel) rfl, am_in 1605 (by decide +kernel) rfl, _, rfl, rfl, by decide⟩
theorem yc_X12_say : AYc yX12_say cX12_say 5 (some .int) 4 := ⟨am_in 134 (by decide +kernel) rfl, am_in 1610 (by decide +kernel) rfl, ⟨by decide +kernel, by decide +kernel, by decide +kernel⟩, by decide⟩
theorem yv_X12_say : AYv yX12_say 11 := ⟨am_in 1608 (by decide +kernel) rfl, am_in 1609 (by decide +kernel) rfl, _, rfl, rfl, by decide⟩
theorem yc_X12_would : AYc yX12_would cX12_would 5 (some .int) 4 := ⟨am_in 134 (by decide +kernel) rfl, am_in 1669 (by decide +kernel) rfl, ⟨by decide +kernel, by decide +kernel, by decide +kernel⟩, by decide⟩
theorem yv_X12_would : AYv yX12_would 11 := ⟨am_in 1667 (by decide +kernel) rfl, am_in 1668 (by decide +kernel) rfl, _, rfl, rfl, by decide⟩
theorem yc_X12_passesOn : AYc yX12_passesOn cX12_passesOn 6 (some .int) 2 := ⟨am_in 134 (by decide +kernel) rfl, am_in 1677 (by decide +kernel) rfl, ⟨by decide +kernel, by decide +kernel, by decide +kernel⟩, by decide⟩
theorem yv_X12_passesOn : AYv yX12_passesOn 11 := ⟨am_in 1676 (by decide +kernel) rfl, am_in 104 (by decide +kernel) rfl, _, rfl, rfl, by decide⟩
theorem yc_X12_meet : AYc yX12_meet cX12_meet 6 (some .int) 2 := ⟨am_in 134 (by decide +kernel) rfl, am_in 1673 (by decide +kernel) rfl, ⟨by decide +kernel, by decide +kernel, by decide +kernel⟩, by decide⟩
theorem yv_X12_meet : AYv yX12_meet 11 := ⟨am_in 1671 (by decide +kernel) rfl, am_in 1672 (by decide +kernel) rfl, _, rfl, rfl, by decide⟩
theorem yc_X12_hour : AYc yX12_hour cX12_hour 1 (some .int) 0 := ⟨am_in 134 (by decide +kernel) rfl, am_in 1681 (by decide +kernel) rfl, ⟨by decide +kernel, by decide +kernel, by decide +kernel⟩, by decide⟩
theorem yv_X12_hour : AYv yX12_hour 11 := ⟨am_in 1679 (by decide +kernel) rfl, am_in 1680 (by decide +kernel) rfl, _, rfl, rfl, by decide⟩
theorem yc_X12_dayComes : AYc yX12_dayComes cX12_dayComes 3 none 0 := ⟨am_in 134 (by decide +kernel) rfl, am_in 1693 (by decide +kernel) rfl, ⟨by decide +kernel, by decide +kernel, by decide +kernel⟩, by decide⟩
theorem yv_X12_dayComes : AYv yX12_dayComes 11 := ⟨am_in 1692 (by decide +kernel) rfl, am_in 106 (by decide +kernel) rfl, _, rfl, rfl, by decide⟩
theorem yc_X12_midnight : AYc yX12_midnight cX12_midnight 1 (some .int) 0 := ⟨am_in 134 (by decide +kernel) rfl, am_in 1689 (by decide +kernel) rfl, ⟨by decide +kernel, by decide +kernel, by decide +kernel⟩, by decide⟩
theorem yv_X12_midnight : AYv yX12_midnight 11 := ⟨am_in 1687 (by decide +kernel) rfl, am_in 1688 (by decide +kernel) rfl, _, rfl, rfl, by decide⟩
theorem yc_X12_summedBy : AYc yX12_summedBy cX12_summedBy 4 (some .long) 1 := ⟨am_in 134 (by decide +kernel) rfl, am_in 1706 (by decide +kernel) rfl, ⟨by decide +kernel, by decide +kernel, by decide +kernel⟩, by decide⟩
theorem yv_X12_summedBy : AYv yX12_summedBy 11 := ⟨am_in 1705 (by decide +kernel) rfl, am_in 108 (by decide +kernel) rfl, _, rfl, rfl, by decide⟩
theorem yc_X12_passes : AYc yX12_passes cX12_passes 11 (some .int) 1 := ⟨am_in 134 (by decide +kernel) rfl, am_in 1702 (by decide +kernel) rfl, ⟨by decide +kernel, by decide +kernel, by decide +kernel⟩, by decide⟩
theorem yv_X12_passes : AYv yX12_passes 11 := ⟨am_in 1701 (by decide +kernel) rfl, am_in 107 (by decide +kernel) rfl, _, rfl, rfl, by decide⟩
theorem yc_X12_run : AYc yX12_run cX12_run 5 (some .int) 2 := ⟨am_in 134 (by decide +kernel) rfl, am_in 1697 (by decide +kernel) rfl, ⟨by decide +kernel, by decide +kernel, by decide +kernel⟩, by decide⟩
theorem yv_X12_run : AYv yX12_run 11 := ⟨am_in 1695 (by decide +kernel) rfl, am_in 1696 (by decide +kernel) rfl, _, rfl, rfl, by decide⟩
theorem yc_X12_breach : AYc yX12_breach cX12_breach 2 (some .int) 1 := ⟨am_in 134 (by decide +kernel) rfl, am_in 1710 (by decide +kernel) rfl, ⟨by decide +kernel, by decide +kernel, by decide +kernel⟩, by decide⟩
theorem yv_X12_breach : AYv yX12_breach 11 := ⟨am_in 1708 (by decide +kernel) rfl, am_in 1709 (by decide +kernel) rfl, _, rfl, rfl, by decide⟩
theorem yc_X12_areTold : AYc yX12_areTold cX12_areTold 3 (some .boolean) 1 := ⟨am_in 134 (by decide +kernel) rfl, am_in 1721 (by decide +kernel) rfl, ⟨by decide +kernel, by decide +kernel, by decide +kernel⟩, by decide⟩
theorem yv_X12_areTold : AYv yX12_areTold 11 := ⟨am_in 1720 (by decide +kernel) rfl, am_in 109 (by decide +kernel) rfl, _, rfl, rfl, by decide⟩
theorem yc_X12_tellers : AYc yX12_tellers cX12_tellers 4 (some .int) 1 := ⟨am_in 134 (by decide +kernel) rfl, am_in 1714 (by decide +kernel) rfl, ⟨by decide +kernel, by decide +kernel, by decide +kernel⟩, by decide⟩
theorem yv_X12_tellers : AYv yX12_tellers 11 := ⟨am_in 1712 (by decide +kernel) rfl, am_in 1713 (by decide +kernel) rfl, _, rfl, rfl, by decide⟩
theorem yc_X12_harmBehind : AYc yX12_harmBehind cX12_harmBehind 7 (some .int) 3 := ⟨am_in 134 (by decide +kernel) rfl, am_in 1733 (by decide +kernel) rfl, ⟨by decide +kernel, by decide +kernel, by decide +kernel⟩, by decide⟩
theorem yv_X12_harmBehind : AYv yX12_harmBehind 11 := ⟨am_in 1732 (by decide +kernel) rfl, am_in 111 (by decide +kernel) rfl, _, rfl, rfl, by decide⟩
theorem yc_X12_leastFact : AYc yX12_leastFact cX12_leastFact 5 (some .int) 2 := ⟨am_in 134 (by decide +kernel) rfl, am_in 1729 (by decide +kernel) rfl, ⟨by decide +kernel, by decide +kernel, by decide +kernel⟩, by decide⟩
theorem yv_X12_leastFact : AYv yX12_leastFact 11 := ⟨am_in 1728 (by decide +kernel) rfl, am_in 110 (by decide +kernel) rfl, _, rfl, rfl, by decide⟩
theorem yc_X12_leastLie : AYc yX12_leastLie cX12_leastLie 5 (some .int) 3 := ⟨am_in 134 (by decide +kernel) rfl, am_in 1725 (by decide +kernel) rfl, ⟨by decide +kernel, by decide +kernel, by decide +kernel⟩, by decide⟩
theorem yv_X12_leastLie : AYv yX12_leastLie 11 := ⟨am_in 1723 (by decide +kernel) rfl, am_in 1724 (by decide +kernel) rfl, _, rfl, rfl, by decide⟩
theorem yc_X12_evening : AYc yX12_evening cX12_evening 6 (some .int) 0 := ⟨am_in 134 (by decide +kernel) rfl, am_in 1741 (by decide +kernel) rfl, ⟨by decide +kernel, by decide +kernel, by decide +kernel⟩, by decide⟩
theorem yv_X12_evening : AYv yX12_evening 11 := ⟨am_in 1739 (by decide +kernel) rfl, am_in 1740 (by decide +kernel) rfl, _, rfl, rfl, by decide⟩
theorem yc_X12_stepped : AYc yX12_stepped cX12_stepped 7 (some .int) 2 := ⟨am_in 134 (by decide +kernel) rfl, am_in 1753 (by decide +kernel) rfl, ⟨by decide +kernel, by decide +kernel, by decide +kernel⟩, by decide⟩
theorem yv_X12_stepped : AYv yX12_stepped 11 := ⟨am_in 1752 (by decide +kernel) rfl, am_in 114 (by decide +kernel) rfl, _, rfl, rfl, by decide⟩
theorem yc_X12_isParted : AYc yX12_isParted cX12_isParted 6 (some .boolean) 3 := ⟨am_in 134 (by decide +kernel) rfl, am_in 1749 (by decide +kernel) rfl, ⟨by decide +kernel, by decide +kernel, by decide +kernel⟩, by decide⟩
theorem yv_X12_isParted : AYv yX12_isParted 11 := ⟨am_in 1748 (by decide +kernel) rfl, am_in 113 (by decide +kernel) rfl, _, rfl, rfl, by decide⟩
theorem yc_X12_walls : AYc yX12_walls cX12_walls 6 (some .int) 3 := ⟨am_in 134 (by decide +kernel) rfl, am_in 1745 (by decide +kernel) rfl, ⟨by decide +kernel, by decide +kernel, by decide +kernel⟩, by decide⟩
theorem yv_X12_walls : AYv yX12_walls 11 := ⟨am_in 1743 (by decide +kernel) rfl, am_in 1744 (by decide +kernel) rfl, _, rfl, rfl, by decide⟩
theorem yc_X12_leak : AYc yX12_leak cX12_leak 5 (some .int) 2 := ⟨am_in 134 (by decide +kernel) rfl, am_in 1757 (by decide +kernel) rfl, ⟨by decide +kernel, by decide +kernel, by decide +kernel⟩, by decide⟩
theorem yv_X12_leak : AYv yX12_leak 11 := ⟨am_in 1755 (by decide +kernel) rfl, am_in 1756 (by decide +kernel) rfl, _, rfl, rfl, by decide⟩
theorem yc_X12_stated : AYc yX12_stated cX12_stated 5 (some .int) 3 := ⟨am_in 134 (by decide +kernel) rfl, am_in 1761 (by decide +kernel) rfl, ⟨by decide +kernel, by decide +kernel, by decide +kernel⟩, by decide⟩
theorem yv_X12_stated : AYv yX12_stated 11 := ⟨am_in 1759 (by decide +kernel) rfl, am_in 1760 (by decide +kernel) rfl, _, rfl, rfl, by decide⟩
theorem yc_X12_statedBy : AYc yX12_statedBy cX12_statedBy 6 (some .int) 2 := ⟨am_in 134 (by decide +kernel) rfl, am_in 1773 (by decide +kernel) rfl, ⟨by decide +kernel, by decide +kernel, by decide +kernel⟩, by decide⟩
theorem yv_X12_statedBy : AYv yX12_statedBy 11 := ⟨am_in 1772 (by decide +kernel) rfl, am_in 116 (by decide +kernel) rfl, _, rfl, rfl, by decide⟩
theorem yc_X12_isTruth : AYc yX12_isTruth cX12_isTruth 3 (some .boolean) 1 := ⟨am_in 134 (by decide +kernel) rfl, am_in 1769 (by decide +kernel) rfl, ⟨by decide +kernel, by decide +kernel, by decide +kernel⟩, by decide⟩
theorem yv_X12_isTruth : AYv yX12_isTruth 11 := ⟨am_in 1768 (by decide +kernel) rfl, am_in 115 (by decide +kernel) rfl, _, rfl, rfl, by decide⟩
theorem yc_X12_peopleOf : AYc yX12_peopleOf cX12_peopleOf 5 (some .int) 2 := ⟨am_in 134 (by decide +kernel) rfl, am_in 1777 (by decide +kernel) rfl, ⟨by decide +kernel, by decide +kernel, by decide +kernel⟩, by decide⟩
theorem yv_X12_peopleOf : AYv yX12_peopleOf 11 := ⟨am_in 1776 (by decide +kernel) rfl, am_in 117 (by decide +kernel) rfl, _, rfl, rfl, by decide⟩
theorem yc_X12_truths : AYc yX12_truths cX12_truths 9 (some .int) 1 := ⟨am_in 134 (by decide +kernel) rfl, am_in 1765 (by decide +kernel) rfl, ⟨by decide +kernel, by decide +kernel, by decide +kernel⟩, by decide⟩
theorem yv_X12_truths : AYv yX12_truths 11 := ⟨am_in 1763 (by decide +kernel) rfl, am_in 1764 (by decide +kernel) rfl, _, rfl, rfl, by decide⟩
theorem yc_X12_ask : AYc yX12_ask cX12_ask 8 (some .int) 1 := ⟨am_in 134 (by decide +kernel) rfl, am_in 1781 (by decide +kernel) rfl, ⟨by decide +kernel, by decide +kernel, by decide +kernel⟩, by decide⟩
theorem yv_X12_ask : AYv yX12_ask 11 := ⟨am_in 1779 (by decide +kernel) rfl, am_in 1780 (by decide +kernel) rfl, _, rfl, rfl, by decide⟩
theorem yc_X12_tale : AYc yX12_tale cX12_tale 3 (some .int) 2 := ⟨am_in 134 (by decide +kernel) rfl, am_in 1785 (by decide +kernel) rfl, ⟨by decide +kernel, by decide +kernel, by decide +kernel⟩, by decide⟩
theorem yv_X12_tale : AYv yX12_tale 11 := ⟨am_in 1783 (by decide +kernel) rfl, am_in 1784 (by decide +kernel) rfl, _, rfl, rfl, by decide⟩
theorem yc_X12_fitsTales : AYc yX12_fitsTales cX12_fitsTales 5 (some .boolean) 2 := ⟨am_in 134 (by decide +kernel) rfl, am_in 1795 (by decide +kernel) rfl, ⟨by decide +kernel, by decide +kernel, by decide +kernel⟩, by decide⟩
theorem yv_X12_fitsTales : AYv yX12_fitsTales 11 := ⟨am_in 1794 (by decide +kernel) rfl, am_in 118 (by decide +kernel) rfl, _, rfl, rfl, by decide⟩
theorem yc_X12_schedules : AYc yX12_schedules cX12_schedules 7 (some .int) 3 := ⟨am_in 134 (by decide +kernel) rfl, am_in 1790 (by decide +kernel) rfl, ⟨by decide +kernel, by decide +kernel, by decide +kernel⟩, by decide⟩
theorem yv_X12_schedules : AYv yX12_schedules 11 := ⟨am_in 1788 (by decide +kernel) rfl, am_in 1789 (by decide +kernel) rfl, _, rfl, rfl, by decide⟩
theorem yc_X12_seed : AYc yX12_seed cX12_seed 3 (some .int) 1 := ⟨am_in 134 (by decide +kernel) rfl, am_in 1799 (by decide +kernel) rfl, ⟨by decide +kernel, by decide +kernel, by decide +kernel⟩, by decide⟩
theorem yv_X12_seed : AYv yX12_seed 11 := ⟨am_in 1797 (by decide +kernel) rfl, am_in 1798 (by decide +kernel) rfl, _, rfl, rfl, by decide⟩
theorem yc_X12_draw : AYc yX12_draw cX12_draw 2 (some .int) 1 := ⟨am_in 134 (by decide +kernel) rfl, am_in 1812 (by decide +kernel) rfl, ⟨by decide +kernel, by decide +kernel, by decide +kernel⟩, by decide⟩
theorem yv_X12_draw : AYv yX12_draw 11 := ⟨am_in 1811 (by decide +kernel) rfl, am_in 120 (by decide +kernel) rfl, _, rfl, rfl, by decide⟩
theorem yc_X12_drawsDay : AYc yX12_drawsDay cX12_drawsDay 9 (some .int) 0 := ⟨am_in 134 (by decide +kernel) rfl, am_in 1808 (by decide +kernel) rfl, ⟨by decide +kernel, by decide +kernel, by decide +kernel⟩, by decide⟩
theorem yv_X12_drawsDay : AYv yX12_drawsDay 11 := ⟨am_in 1807 (by decide +kernel) rfl, am_in 119 (by decide +kernel) rfl, _, rfl, rfl, by decide⟩
theorem yc_X12_years : AYc yX12_years cX12_years 10 (some .int) 3 := ⟨am_in 134 (by decide +kernel) rfl, am_in 1803 (by decide +kernel) rfl, ⟨by decide +kernel, by decide +kernel, by decide +kernel⟩, by decide⟩
theorem yv_X12_years : AYv yX12_years 11 := ⟨am_in 1801 (by decide +kernel) rfl, am_in 1802 (by decide +kernel) rfl, _, rfl, rfl, by decide⟩
theorem yc_X12_count : AYc yX12_count cX12_count 4 (some .int) 1 := ⟨am_in 134 (by decide +kernel) rfl, am_in 1820 (by decide +kernel) rfl, ⟨by decide +kernel, by decide +kernel, by decide +kernel⟩, by decide⟩
theorem yv_X12_count : AYv yX12_count 11 := ⟨am_in 1818 (by decide +kernel) rfl, am_in 1819 (by decide +kernel) rfl, _, rfl, rfl, by decide⟩
theorem yc_X12_image : AYc yX12_image cX12_image 3 (some .int) 1 := ⟨am_in 134 (by decide +kernel) rfl, am_in 1824 (by decide +kernel) rfl, ⟨by decide +kernel, by decide +kernel, by decide +kernel⟩, by decide⟩
theorem yv_X12_image : AYv yX12_image 11 := ⟨am_in 1822 (by decide +kernel) rfl, am_in 1823 (by decide +kernel) rfl, _, rfl, rfl, by decide⟩
theorem yc_X12_back : AYc yX12_back cX12_back 3 (some .int) 1 := ⟨am_in 134 (by decide +kernel) rfl, am_in 1829 (by decide +kernel) rfl, ⟨by decide +kernel, by decide +kernel, by decide +kernel⟩, by decide⟩
theorem yv_X12_back : AYv yX12_back 11 := ⟨am_in 1827 (by decide +kernel) rfl, am_in 1828 (by decide +kernel) rfl, _, rfl, rfl, by decide⟩
theorem yc_J6_bitCount_0f7a4 : AYc yJ6_bitCount_0f7a4 cJ6_bitCount_0f7a4 1 (some .int) 1 := ⟨am_in 142 (by decide +kernel) rfl, am_in 1090 (by decide +kernel) rfl, ⟨by decide +kernel, by decide +kernel, by decide +kernel⟩, by decide⟩
theorem ys_J6_bitCount_0f7a4 : Cond.static yJ6_bitCount_0f7a4 ∈ am_tbl := am_in 1089 (by decide +kernel) rfl
theorem yc_J9_max_7cf53 : AYc yJ9_max_7cf53 cJ9_max_7cf53 2 (some .int) 2 := ⟨am_in 141 (by decide +kernel) rfl, am_in 1034 (by decide +kernel) rfl, ⟨by decide +kernel, by decide +kernel, by decide +kernel⟩, by decide⟩
theorem ys_J9_max_7cf53 : Cond.static yJ9_max_7cf53 ∈ am_tbl := am_in 1033 (by decide +kernel) rfl
theorem yc_J9_min_7cf53 : AYc yJ9_min_7cf53 cJ9_min_7cf53 2 (some .int) 2 := ⟨am_in 141 (by decide +kernel) rfl, am_in 1031 (by decide +kernel) rfl, ⟨by decide +kernel, by decide +kernel, by decide +kernel⟩, by decide⟩
theorem ys_J9_min_7cf53 : Cond.static yJ9_min_7cf53 ∈ am_tbl := am_in 1030 (by decide +kernel) rfl
theorem yc_J0_length_8abf5 : AYc yJ0_length_8abf5 cJ0_length_8abf5 1 (some .int) 0 := ⟨am_in 135 (by decide +kernel) rfl, am_in 620 (by decide +kernel) rfl, ⟨by decide +kernel, by decide +kernel, by decide +kernel⟩, by decide⟩
theorem yc_J0_charAt_5068e : AYc yJ0_charAt_5068e cJ0_charAt_5068e 2 (some .char) 1 := ⟨am_in 135 (by decide +kernel) rfl, am_in 630 (by decide +kernel) rfl, ⟨by decide +kernel, by decide +kernel, by decide +kernel⟩, by decide⟩
theorem yc_J0_coder_7d493 : AYc yJ0_coder_7d493 cJ0_coder_7d493 1 (some .byte) 0 := ⟨am_in 135 (by decide +kernel) rfl, am_in 624 (by decide +kernel) rfl, ⟨by decide +kernel, by decide +kernel, by decide +kernel⟩, by decide⟩
theorem yc_J0_isLatin1_aae02 : AYc yJ0_isLatin1_aae02 cJ0_isLatin1_aae02 1 (some .boolean) 0 := ⟨am_in 135 (by decide +kernel) rfl, am_in 634 (by decide +kernel) rfl, ⟨by decide +kernel, by decide +kernel, by decide +kernel⟩, by decide⟩
theorem yc_J0_checkIndex_df160 : AYc yJ0_checkIndex_df160 cJ0_checkIndex_df160 2 none 2 := ⟨am_in 135 (by decide +kernel) rfl, am_in 640 (by decide +kernel) rfl, ⟨by decide +kernel, by decide +kernel, by decide +kernel⟩, by decide⟩
theorem ys_J0_checkIndex_df160 : Cond.static yJ0_checkIndex_df160 ∈ am_tbl := am_in 639 (by decide +kernel) rfl
theorem yc_J1_charAt_3b067 : AYc yJ1_charAt_3b067 cJ1_charAt_3b067 2 (some .char) 2 := ⟨am_in 136 (by decide +kernel) rfl, am_in 637 (by decide +kernel) rfl, ⟨by decide +kernel, by decide +kernel, by decide +kernel⟩, by decide⟩
theorem ys_J1_charAt_3b067 : Cond.static yJ1_charAt_3b067 ∈ am_tbl := am_in 636 (by decide +kernel) rfl
theorem yc_J2_getChar_3b067 : AYc yJ2_getChar_3b067 cJ2_getChar_3b067 2 (some .char) 2 := ⟨am_in 138 (by decide +kernel) rfl, am_in 658 (by decide +kernel) rfl, ⟨by decide +kernel, by decide +kernel, by decide +kernel⟩, by decide⟩
theorem ys_J2_getChar_3b067 : Cond.static yJ2_getChar_3b067 ∈ am_tbl := am_in 657 (by decide +kernel) rfl
theorem yc_J2_length_9d52b : AYc yJ2_length_9d52b cJ2_length_9d52b 1 (some .int) 1 := ⟨am_in 138 (by decide +kernel) rfl, am_in 654 (by decide +kernel) rfl, ⟨by decide +kernel, by decide +kernel, by decide +kernel⟩, by decide⟩
theorem ys_J2_length_9d52b : Cond.static yJ2_length_9d52b ∈ am_tbl := am_in 653 (by decide +kernel) rfl
theorem yc_J2_charAt_3b067 : AYc yJ2_charAt_3b067 cJ2_charAt_3b067 2 (some .char) 2 := ⟨am_in 138 (by decide +kernel) rfl, am_in 648 (by decide +kernel) rfl, ⟨by decide +kernel, by decide +kernel, by decide +kernel⟩, by decide⟩
theorem ys_J2_charAt_3b067 : Cond.static yJ2_charAt_3b067 ∈ am_tbl := am_in 647 (by decide +kernel) rfl
theorem yc_J2_checkIndex_2214a : AYc yJ2_checkIndex_2214a cJ2_checkIndex_2214a 2 none 2 := ⟨am_in 138 (by decide +kernel) rfl, am_in 651 (by decide +kernel) rfl, ⟨by decide +kernel, by decide +kernel, by decide +kernel⟩, by decide⟩
theorem ys_J2_checkIndex_2214a : Cond.static yJ2_checkIndex_2214a ∈ am_tbl := am_in 650 (by decide +kernel) rfl
theorem yc_J7_fill_53178 : AYc yJ7_fill_53178 cJ7_fill_53178 4 none 2 := ⟨am_in 139 (by decide +kernel) rfl, am_in 681 (by decide +kernel) rfl, ⟨by decide +kernel, by decide +kernel, by decide +kernel⟩, by decide⟩
theorem ys_J7_fill_53178 : Cond.static yJ7_fill_53178 ∈ am_tbl := am_in 680 (by decide +kernel) rfl
theorem yc_J3_checkIndex_8e157 : AYc yJ3_checkIndex_8e157 cJ3_checkIndex_8e157 3 (some .int) 3 := ⟨am_in 137 (by decide +kernel) rfl, am_in 645 (by decide +kernel) rfl, ⟨by decide +kernel, by decide +kernel, by decide +kernel⟩, by decide⟩
theorem ys_J3_checkIndex_8e157 : Cond.static yJ3_checkIndex_8e157 ∈ am_tbl := am_in 644 (by decide +kernel) rfl
theorem ml_L_9 : Cond.methodLink RL 9 yX11_init ∈ am_tbl := am_in 145 (by decide +kernel) rfl
theorem ml_X11_1 : Cond.methodLink RX11 1 Lib.objectInit ∈ am_tbl := am_in 148 (by decide +kernel) rfl
theorem ml_X7_3 : Cond.methodLink RX7 3 Lib.objectInit ∈ am_tbl := am_in 156 (by decide +kernel) rfl
theorem ml_X8_3 : Cond.methodLink RX8 3 Lib.objectInit ∈ am_tbl := am_in 184 (by decide +kernel) rfl
theorem ml_X5_3 : Cond.methodLink RX5 3 Lib.objectInit ∈ am_tbl := am_in 272 (by decide +kernel) rfl
theorem ml_X2_3 : Cond.methodLink RX2 3 Lib.objectInit ∈ am_tbl := am_in 280 (by decide +kernel) rfl
theorem ml_X11_50 : Cond.methodLink RX11 50 yX0_init ∈ am_tbl := am_in 358 (by decide +kernel) rfl
theorem ml_X0_3 : Cond.methodLink RX0 3 Lib.objectInit ∈ am_tbl := am_in 361 (by decide +kernel) rfl
theorem ml_X11_64 : Cond.methodLink RX11 64 yX6_init ∈ am_tbl := am_in 379 (by decide +kernel) rfl
theorem ml_X6_3 : Cond.methodLink RX6 3 Lib.objectInit ∈ am_tbl := am_in 382 (by decide +kernel) rfl
theorem ml_X10_3 : Cond.methodLink RX10 3 Lib.objectInit ∈ am_tbl := am_in 421 (by decide +kernel) rfl
theorem ml_X11_88 : Cond.methodLink RX11 88 yX3_init ∈ am_tbl := am_in 449 (by decide +kernel) rfl
theorem ml_X3_3 : Cond.methodLink RX3 3 Lib.objectInit ∈ am_tbl := am_in 452 (by decide +kernel) rfl
theorem ml_X11_93 : Cond.methodLink RX11 93 yX9_init ∈ am_tbl := am_in 489 (by decide +kernel) rfl
theorem ml_X9_3 : Cond.methodLink RX9 3 yX1_init ∈ am_tbl := am_in 492 (by decide +kernel) rfl
theorem ml_X1_3 : Cond.methodLink RX1 3 Lib.objectInit ∈ am_tbl := am_in 495 (by decide +kernel) rfl
theorem ml_X11_102 : Cond.methodLink RX11 102 yX4_init ∈ am_tbl := am_in 509 (by decide +kernel) rfl
theorem ml_X4_3 : Cond.methodLink RX4 3 yX1_init ∈ am_tbl := am_in 512 (by decide +kernel) rfl
theorem ml_L_13 : Cond.methodLink RL 13 yX11_feed ∈ am_tbl := am_in 573 (by decide +kernel) rfl
theorem ml_X11_113 : Cond.methodLink RX11 113 yX11_addBytes ∈ am_tbl := am_in 577 (by decide +kernel) rfl
theorem ml_L_18 : Cond.methodLink RL 18 yX11_end ∈ am_tbl := am_in 581 (by decide +kernel) rfl
theorem ml_L_23 : Cond.methodLink RL 23 yX11_town ∈ am_tbl := am_in 585 (by decide +kernel) rfl
theorem ml_X11_117 : Cond.methodLink RX11 117 yX7_cut ∈ am_tbl := am_in 589 (by decide +kernel) rfl
theorem ml_X7_31 : Cond.methodLink RX7 31 yX7_goesOn ∈ am_tbl := am_in 593 (by decide +kernel) rfl
theorem ml_X7_47 : Cond.methodLink RX7 47 yX7_isLetter ∈ am_tbl := am_in 596 (by decide +kernel) rfl
theorem ml_X7_51 : Cond.methodLink RX7 51 yX7_isDigit ∈ am_tbl := am_in 599 (by decide +kernel) rfl
theorem ml_X7_35 : Cond.methodLink RX7 35 yX7_kindOf ∈ am_tbl := am_in 602 (by decide +kernel) rfl
theorem ml_X7_39 : Cond.methodLink RX7 39 yX7_begin ∈ am_tbl := am_in 605 (by decide +kernel) rfl
theorem ml_X7_43 : Cond.methodLink RX7 43 yX7_settleValue ∈ am_tbl := am_in 609 (by decide +kernel) rfl
theorem ml_X7_54 : Cond.methodLink RX7 54 yX7_wordNumber ∈ am_tbl := am_in 613 (by decide +kernel) rfl
theorem ml_X7_67 : Cond.methodLink RX7 67 yJ0_length_8abf5 ∈ am_tbl := am_in 617 (by decide +kernel) rfl
theorem ml_J0_335 : Cond.methodLink RJ0 335 yJ0_coder_7d493 ∈ am_tbl := am_in 621 (by decide +kernel) rfl
theorem ml_X7_73 : Cond.methodLink RX7 73 yJ0_charAt_5068e ∈ am_tbl := am_in 627 (by decide +kernel) rfl
theorem ml_J0_492 : Cond.methodLink RJ0 492 yJ0_isLatin1_aae02 ∈ am_tbl := am_in 631 (by decide +kernel) rfl
theorem ml_J0_495 : Cond.methodLink RJ0 495 yJ1_charAt_3b067 ∈ am_tbl := am_in 635 (by decide +kernel) rfl
theorem ml_J1_9 : Cond.methodLink RJ1 9 yJ0_checkIndex_df160 ∈ am_tbl := am_in 638 (by decide +kernel) rfl
theorem ml_J0_1059 : Cond.methodLink RJ0 1059 yJ3_checkIndex_8e157 ∈ am_tbl := am_in 643 (by decide +kernel) rfl
theorem ml_J0_498 : Cond.methodLink RJ0 498 yJ2_charAt_3b067 ∈ am_tbl := am_in 646 (by decide +kernel) rfl
theorem ml_J2_67 : Cond.methodLink RJ2 67 yJ2_checkIndex_2214a ∈ am_tbl := am_in 649 (by decide +kernel) rfl
theorem ml_J2_48 : Cond.methodLink RJ2 48 yJ2_length_9d52b ∈ am_tbl := am_in 652 (by decide +kernel) rfl
theorem ml_J2_414 : Cond.methodLink RJ2 414 yJ0_checkIndex_df160 ∈ am_tbl := am_in 655 (by decide +kernel) rfl
theorem ml_J2_71 : Cond.methodLink RJ2 71 yJ2_getChar_3b067 ∈ am_tbl := am_in 656 (by decide +kernel) rfl
theorem ml_X7_58 : Cond.methodLink RX7 58 yX7_numberOf ∈ am_tbl := am_in 665 (by decide +kernel) rfl
theorem ml_X7_61 : Cond.methodLink RX7 61 yX7_signStep ∈ am_tbl := am_in 668 (by decide +kernel) rfl
theorem ml_X11_121 : Cond.methodLink RX11 121 yX9_begin ∈ am_tbl := am_in 671 (by decide +kernel) rfl
theorem ml_X9_15 : Cond.methodLink RX9 15 yX8_clear ∈ am_tbl := am_in 675 (by decide +kernel) rfl
theorem ml_X8_62 : Cond.methodLink RX8 62 yJ7_fill_53178 ∈ am_tbl := am_in 679 (by decide +kernel) rfl
theorem ml_X11_125 : Cond.methodLink RX11 125 (⟨"DailyLie$TownReader", "readClauses", "(I)I"⟩ : MethodName) ∈ am_tbl := am_in 682 (by decide +kernel) rfl
theorem ml_X1_15 : Cond.methodLink RX1 15 (⟨"DailyLie$ClauseReader", "readClause", "(I)V"⟩ : MethodName) ∈ am_tbl := am_in 688 (by decide +kernel) rfl
theorem ml_X4_29 : Cond.methodLink RX4 29 yX7_wordHere ∈ am_tbl := am_in 694 (by decide +kernel) rfl
theorem ml_X4_35 : Cond.methodLink RX4 35 yX7_fail ∈ am_tbl := am_in 698 (by decide +kernel) rfl
theorem ml_X4_39 : Cond.methodLink RX4 39 yX7_step ∈ am_tbl := am_in 702 (by decide +kernel) rfl
theorem ml_X4_45 : Cond.methodLink RX4 45 yX4_readSum ∈ am_tbl := am_in 706 (by decide +kernel) rfl
theorem ml_X4_85 : Cond.methodLink RX4 85 yX4_readValue ∈ am_tbl := am_in 710 (by decide +kernel) rfl
theorem ml_X4_82 : Cond.methodLink RX4 82 yX7_kindHere ∈ am_tbl := am_in 714 (by decide +kernel) rfl
theorem ml_X4_91 : Cond.methodLink RX4 91 yX4_isValueWord ∈ am_tbl := am_in 718 (by decide +kernel) rfl
theorem ml_X4_51 : Cond.methodLink RX4 51 yX7_fine ∈ am_tbl := am_in 721 (by decide +kernel) rfl
theorem ml_X4_79 : Cond.methodLink RX4 79 yX7_valueHere ∈ am_tbl := am_in 725 (by decide +kernel) rfl
theorem ml_X4_66 : Cond.methodLink RX4 66 yX3_addStep ∈ am_tbl := am_in 729 (by decide +kernel) rfl
theorem ml_X4_88 : Cond.methodLink RX4 88 yX4_arithmeticStep ∈ am_tbl := am_in 733 (by decide +kernel) rfl
theorem ml_X4_48 : Cond.methodLink RX4 48 yX4_readTest ∈ am_tbl := am_in 737 (by decide +kernel) rfl
theorem ml_X4_59 : Cond.methodLink RX4 59 yX4_readFact ∈ am_tbl := am_in 741 (by decide +kernel) rfl
theorem ml_X4_70 : Cond.methodLink RX4 70 yX7_isByte ∈ am_tbl := am_in 745 (by decide +kernel) rfl
theorem ml_X4_73 : Cond.methodLink RX4 73 yX4_readClosing ∈ am_tbl := am_in 749 (by decide +kernel) rfl
theorem ml_X4_76 : Cond.methodLink RX4 76 yX4_readSign ∈ am_tbl := am_in 753 (by decide +kernel) rfl
theorem ml_X4_62 : Cond.methodLink RX4 62 yX4_isJoint ∈ am_tbl := am_in 757 (by decide +kernel) rfl
theorem ml_X4_55 : Cond.methodLink RX4 55 yX3_addClause ∈ am_tbl := am_in 760 (by decide +kernel) rfl
theorem ml_X9_25 : Cond.methodLink RX9 25 yX7_wordHere ∈ am_tbl := am_in 767 (by decide +kernel) rfl
theorem ml_X9_31 : Cond.methodLink RX9 31 yX7_fail ∈ am_tbl := am_in 768 (by decide +kernel) rfl
theorem ml_X9_35 : Cond.methodLink RX9 35 yX9_isOneTooMany ∈ am_tbl := am_in 769 (by decide +kernel) rfl
theorem ml_X9_39 : Cond.methodLink RX9 39 yX7_step ∈ am_tbl := am_in 773 (by decide +kernel) rfl
theorem ml_X9_42 : Cond.methodLink RX9 42 yX9_readBehind ∈ am_tbl := am_in 774 (by decide +kernel) rfl
theorem ml_X9_62 : Cond.methodLink RX9 62 yX9_readFacts ∈ am_tbl := am_in 778 (by decide +kernel) rfl
theorem ml_X9_83 : Cond.methodLink RX9 83 yX7_readNumber ∈ am_tbl := am_in 782 (by decide +kernel) rfl
theorem ml_X7_77 : Cond.methodLink RX7 77 yX7_fail ∈ am_tbl := am_in 786 (by decide +kernel) rfl
theorem ml_X7_81 : Cond.methodLink RX7 81 yX7_step ∈ am_tbl := am_in 787 (by decide +kernel) rfl
theorem ml_X9_65 : Cond.methodLink RX9 65 yX9_readPerson ∈ am_tbl := am_in 788 (by decide +kernel) rfl
theorem ml_X9_93 : Cond.methodLink RX9 93 yX7_fine ∈ am_tbl := am_in 792 (by decide +kernel) rfl
theorem ml_X9_68 : Cond.methodLink RX9 68 yX9_readTrust ∈ am_tbl := am_in 793 (by decide +kernel) rfl
theorem ml_X9_101 : Cond.methodLink RX9 101 yX7_refuseNumber ∈ am_tbl := am_in 797 (by decide +kernel) rfl
theorem ml_X9_71 : Cond.methodLink RX9 71 yX9_readStreet ∈ am_tbl := am_in 801 (by decide +kernel) rfl
theorem ml_X9_107 : Cond.methodLink RX9 107 yX8_hasStreet ∈ am_tbl := am_in 805 (by decide +kernel) rfl
theorem ml_X8_78 : Cond.methodLink RX8 78 yX8_hasTwo ∈ am_tbl := am_in 809 (by decide +kernel) rfl
theorem ml_X8_74 : Cond.methodLink RX8 74 yX8_hasPerson ∈ am_tbl := am_in 813 (by decide +kernel) rfl
theorem ml_X9_110 : Cond.methodLink RX9 110 yX8_addStreet ∈ am_tbl := am_in 820 (by decide +kernel) rfl
theorem ml_X9_74 : Cond.methodLink RX9 74 yX9_readIf ∈ am_tbl := am_in 824 (by decide +kernel) rfl
theorem ml_X9_114 : Cond.methodLink RX9 114 yX8_addIf ∈ am_tbl := am_in 828 (by decide +kernel) rfl
theorem ml_X9_77 : Cond.methodLink RX9 77 yX9_readHarm ∈ am_tbl := am_in 832 (by decide +kernel) rfl
theorem ml_X9_118 : Cond.methodLink RX9 118 yX8_addHarm ∈ am_tbl := am_in 836 (by decide +kernel) rfl
theorem ml_X9_80 : Cond.methodLink RX9 80 yX9_readChild ∈ am_tbl := am_in 840 (by decide +kernel) rfl
theorem ml_X1_19 : Cond.methodLink RX1 19 yX7_fine ∈ am_tbl := am_in 844 (by decide +kernel) rfl
theorem ml_X1_25 : Cond.methodLink RX1 25 yX7_isByte ∈ am_tbl := am_in 845 (by decide +kernel) rfl
theorem ml_X1_29 : Cond.methodLink RX1 29 yX7_step ∈ am_tbl := am_in 846 (by decide +kernel) rfl
theorem ml_X1_32 : Cond.methodLink RX1 32 yX7_kindHere ∈ am_tbl := am_in 847 (by decide +kernel) rfl
theorem ml_X1_36 : Cond.methodLink RX1 36 yX7_fail ∈ am_tbl := am_in 848 (by decide +kernel) rfl
theorem ml_X11_129 : Cond.methodLink RX11 129 yX5_settle ∈ am_tbl := am_in 849 (by decide +kernel) rfl
theorem ml_X5_33 : Cond.methodLink RX5 33 yX8_copyFrom ∈ am_tbl := am_in 853 (by decide +kernel) rfl
theorem ml_X8_68 : Cond.methodLink RX8 68 arraycopyName ∈ am_tbl := am_in 857 (by decide +kernel) rfl
theorem ml_X5_65 : Cond.methodLink RX5 65 yX2_begin ∈ am_tbl := am_in 860 (by decide +kernel) rfl
theorem ml_X2_28 : Cond.methodLink RX2 28 yJ7_fill_53178 ∈ am_tbl := am_in 864 (by decide +kernel) rfl
theorem ml_X2_52 : Cond.methodLink RX2 52 yX2_conclude ∈ am_tbl := am_in 866 (by decide +kernel) rfl
theorem ml_X2_65 : Cond.methodLink RX2 65 arraycopyName ∈ am_tbl := am_in 870 (by decide +kernel) rfl
theorem ml_X2_74 : Cond.methodLink RX2 74 yX8_addWhatFollows ∈ am_tbl := am_in 871 (by decide +kernel) rfl
theorem ml_X8_86 : Cond.methodLink RX8 86 yX8_firstFollowing ∈ am_tbl := am_in 875 (by decide +kernel) rfl
theorem ml_X2_62 : Cond.methodLink RX2 62 yX2_forgetLies ∈ am_tbl := am_in 879 (by decide +kernel) rfl
theorem ml_X5_68 : Cond.methodLink RX5 68 yX5_forgetTales ∈ am_tbl := am_in 883 (by decide +kernel) rfl
theorem ml_X11_132 : Cond.methodLink RX11 132 yX0_forget ∈ am_tbl := am_in 887 (by decide +kernel) rfl
theorem ml_L_28 : Cond.methodLink RL 28 yX11_rule ∈ am_tbl := am_in 891 (by decide +kernel) rfl
theorem ml_X11_141 : Cond.methodLink RX11 141 yX4_begin ∈ am_tbl := am_in 895 (by decide +kernel) rfl
theorem ml_X4_15 : Cond.methodLink RX4 15 yX3_clear ∈ am_tbl := am_in 899 (by decide +kernel) rfl
theorem ml_X11_144 : Cond.methodLink RX11 144 (⟨"DailyLie$RuleReader", "readClauses", "(I)I"⟩ : MethodName) ∈ am_tbl := am_in 903 (by decide +kernel) rfl
theorem ml_L_32 : Cond.methodLink RL 32 yX11_charter ∈ am_tbl := am_in 906 (by decide +kernel) rfl
theorem ml_X11_145 : Cond.methodLink RX11 145 yX11_hasRule ∈ am_tbl := am_in 910 (by decide +kernel) rfl
theorem ml_L_36 : Cond.methodLink RL 36 yX11_holds ∈ am_tbl := am_in 914 (by decide +kernel) rfl
theorem ml_X11_152 : Cond.methodLink RX11 152 yX8_hasPerson ∈ am_tbl := am_in 918 (by decide +kernel) rfl
theorem ml_X11_155 : Cond.methodLink RX11 155 yX8_hasFact ∈ am_tbl := am_in 919 (by decide +kernel) rfl
theorem ml_L_41 : Cond.methodLink RL 41 yX11_person ∈ am_tbl := am_in 923 (by decide +kernel) rfl
theorem ml_X11_170 : Cond.methodLink RX11 170 yX8_harmOf ∈ am_tbl := am_in 927 (by decide +kernel) rfl
theorem ml_X11_174 : Cond.methodLink RX11 174 yX8_contradictionsOf ∈ am_tbl := am_in 931 (by decide +kernel) rfl
theorem ml_X11_183 : Cond.methodLink RX11 183 yX11_bit ∈ am_tbl := am_in 935 (by decide +kernel) rfl
theorem ml_L_46 : Cond.methodLink RL 46 yX11_trust ∈ am_tbl := am_in 936 (by decide +kernel) rfl
theorem ml_X11_187 : Cond.methodLink RX11 187 yX8_hasTwo ∈ am_tbl := am_in 940 (by decide +kernel) rfl
theorem ml_L_132 : Cond.methodLink RL 132 yX11_count ∈ am_tbl := am_in 941 (by decide +kernel) rfl
theorem ml_X11_209 : Cond.methodLink RX11 209 yX2_liesOfDay ∈ am_tbl := am_in 945 (by decide +kernel) rfl
theorem ml_X11_213 : Cond.methodLink RX11 213 yX2_harmOfAll ∈ am_tbl := am_in 949 (by decide +kernel) rfl
theorem ml_X2_115 : Cond.methodLink RX2 115 yX8_harmOf ∈ am_tbl := am_in 953 (by decide +kernel) rfl
theorem ml_L_50 : Cond.methodLink RL 50 yX11_say ∈ am_tbl := am_in 954 (by decide +kernel) rfl
theorem ml_X11_229 : Cond.methodLink RX11 229 yX11_canSay ∈ am_tbl := am_in 958 (by decide +kernel) rfl
theorem ml_X11_248 : Cond.methodLink RX11 248 yX8_hasStreet ∈ am_tbl := am_in 962 (by decide +kernel) rfl
theorem ml_X11_284 : Cond.methodLink RX11 284 yX11_isBit ∈ am_tbl := am_in 963 (by decide +kernel) rfl
theorem ml_X11_233 : Cond.methodLink RX11 233 yX0_keep ∈ am_tbl := am_in 966 (by decide +kernel) rfl
theorem ml_X0_25 : Cond.methodLink RX0 25 yX2_copyFrom ∈ am_tbl := am_in 970 (by decide +kernel) rfl
theorem ml_X11_237 : Cond.methodLink RX11 237 yX11_prepare ∈ am_tbl := am_in 974 (by decide +kernel) rfl
theorem ml_X11_241 : Cond.methodLink RX11 241 yX11_speak ∈ am_tbl := am_in 978 (by decide +kernel) rfl
theorem ml_X11_244 : Cond.methodLink RX11 244 yX11_isLie ∈ am_tbl := am_in 982 (by decide +kernel) rfl
theorem ml_X11_313 : Cond.methodLink RX11 313 yX3_findsLie ∈ am_tbl := am_in 986 (by decide +kernel) rfl
theorem ml_X3_46 : Cond.methodLink RX3 46 yX3_work ∈ am_tbl := am_in 990 (by decide +kernel) rfl
theorem ml_X3_50 : Cond.methodLink RX3 50 yX6_valueOf ∈ am_tbl := am_in 994 (by decide +kernel) rfl
theorem ml_X6_56 : Cond.methodLink RX6 56 yX8_harmOfFact ∈ am_tbl := am_in 999 (by decide +kernel) rfl
theorem ml_X3_56 : Cond.methodLink RX3 56 yX3_combine ∈ am_tbl := am_in 1003 (by decide +kernel) rfl
theorem ml_X3_60 : Cond.methodLink RX3 60 yX3_compare ∈ am_tbl := am_in 1006 (by decide +kernel) rfl
theorem ml_X11_303 : Cond.methodLink RX11 303 yX2_countLie ∈ am_tbl := am_in 1009 (by decide +kernel) rfl
theorem ml_X11_306 : Cond.methodLink RX11 306 yX2_hear ∈ am_tbl := am_in 1013 (by decide +kernel) rfl
theorem ml_X2_108 : Cond.methodLink RX2 108 yX2_accepts ∈ am_tbl := am_in 1017 (by decide +kernel) rfl
theorem ml_L_55 : Cond.methodLink RL 55 yX11_would ∈ am_tbl := am_in 1021 (by decide +kernel) rfl
theorem ml_L_59 : Cond.methodLink RL 59 yX11_meet ∈ am_tbl := am_in 1025 (by decide +kernel) rfl
theorem ml_X11_251 : Cond.methodLink RX11 251 Lib.Math.min.name ∈ am_tbl := am_in 1029 (by decide +kernel) rfl
theorem ml_X11_256 : Cond.methodLink RX11 256 Lib.Math.max.name ∈ am_tbl := am_in 1032 (by decide +kernel) rfl
theorem ml_X11_259 : Cond.methodLink RX11 259 yX11_tellAll ∈ am_tbl := am_in 1035 (by decide +kernel) rfl
theorem ml_L_63 : Cond.methodLink RL 63 yX11_hour ∈ am_tbl := am_in 1039 (by decide +kernel) rfl
theorem ml_L_67 : Cond.methodLink RL 67 yX11_midnight ∈ am_tbl := am_in 1043 (by decide +kernel) rfl
theorem ml_X11_266 : Cond.methodLink RX11 266 yX2_beginDay ∈ am_tbl := am_in 1047 (by decide +kernel) rfl
theorem ml_X2_77 : Cond.methodLink RX2 77 Lib.Math.min.name ∈ am_tbl := am_in 1051 (by decide +kernel) rfl
theorem ml_X2_86 : Cond.methodLink RX2 86 yX2_correctAll ∈ am_tbl := am_in 1052 (by decide +kernel) rfl
theorem ml_L_71 : Cond.methodLink RL 71 yX11_undo ∈ am_tbl := am_in 1056 (by decide +kernel) rfl
theorem ml_X11_269 : Cond.methodLink RX11 269 yX0_takeBack ∈ am_tbl := am_in 1060 (by decide +kernel) rfl
theorem ml_L_75 : Cond.methodLink RL 75 yX11_run ∈ am_tbl := am_in 1064 (by decide +kernel) rfl
theorem ml_X11_272 : Cond.methodLink RX11 272 yX11_liveHour ∈ am_tbl := am_in 1068 (by decide +kernel) rfl
theorem ml_X11_276 : Cond.methodLink RX11 276 yX11_chooseSaying ∈ am_tbl := am_in 1072 (by decide +kernel) rfl
theorem ml_X11_280 : Cond.methodLink RX11 280 yX3_scoreOf ∈ am_tbl := am_in 1076 (by decide +kernel) rfl
theorem ml_L_79 : Cond.methodLink RL 79 yX11_breach ∈ am_tbl := am_in 1080 (by decide +kernel) rfl
theorem ml_L_83 : Cond.methodLink RL 83 yX11_tellers ∈ am_tbl := am_in 1084 (by decide +kernel) rfl
theorem ml_X11_323 : Cond.methodLink RX11 323 yJ6_bitCount_0f7a4 ∈ am_tbl := am_in 1088 (by decide +kernel) rfl
theorem ml_X11_328 : Cond.methodLink RX11 328 yX8_reachesAll ∈ am_tbl := am_in 1094 (by decide +kernel) rfl
theorem ml_L_87 : Cond.methodLink RL 87 yX11_leastLie ∈ am_tbl := am_in 1098 (by decide +kernel) rfl
theorem ml_X11_331 : Cond.methodLink RX11 331 yX11_leastLieFact ∈ am_tbl := am_in 1102 (by decide +kernel) rfl
theorem ml_X11_334 : Cond.methodLink RX11 334 yX11_harmBehindLie ∈ am_tbl := am_in 1106 (by decide +kernel) rfl
theorem ml_X11_338 : Cond.methodLink RX11 338 arraycopyName ∈ am_tbl := am_in 1110 (by decide +kernel) rfl
theorem ml_X11_344 : Cond.methodLink RX11 344 yX2_accepts ∈ am_tbl := am_in 1111 (by decide +kernel) rfl
theorem ml_X11_348 : Cond.methodLink RX11 348 yX8_addWhatFollows ∈ am_tbl := am_in 1112 (by decide +kernel) rfl
theorem ml_L_91 : Cond.methodLink RL 91 yX11_evening ∈ am_tbl := am_in 1113 (by decide +kernel) rfl
theorem ml_X11_352 : Cond.methodLink RX11 352 yX11_eveningHarm ∈ am_tbl := am_in 1117 (by decide +kernel) rfl
theorem ml_L_95 : Cond.methodLink RL 95 yX11_walls ∈ am_tbl := am_in 1121 (by decide +kernel) rfl
theorem ml_X11_355 : Cond.methodLink RX11 355 yX8_distance ∈ am_tbl := am_in 1125 (by decide +kernel) rfl
theorem ml_X8_90 : Cond.methodLink RX8 90 yX8_spread ∈ am_tbl := am_in 1129 (by decide +kernel) rfl
theorem ml_L_99 : Cond.methodLink RL 99 yX11_leak ∈ am_tbl := am_in 1133 (by decide +kernel) rfl
theorem ml_L_103 : Cond.methodLink RL 103 yX11_stated ∈ am_tbl := am_in 1137 (by decide +kernel) rfl
theorem ml_X11_358 : Cond.methodLink RX11 358 yX5_addStated ∈ am_tbl := am_in 1141 (by decide +kernel) rfl
theorem ml_L_107 : Cond.methodLink RL 107 yX11_truths ∈ am_tbl := am_in 1145 (by decide +kernel) rfl
theorem ml_X11_362 : Cond.methodLink RX11 362 yX10_weigh ∈ am_tbl := am_in 1149 (by decide +kernel) rfl
theorem ml_X10_42 : Cond.methodLink RX10 42 yJ7_fill_53178 ∈ am_tbl := am_in 1153 (by decide +kernel) rfl
theorem ml_X10_48 : Cond.methodLink RX10 48 yX10_weighWay ∈ am_tbl := am_in 1154 (by decide +kernel) rfl
theorem ml_X10_62 : Cond.methodLink RX10 62 yX10_addWay ∈ am_tbl := am_in 1159 (by decide +kernel) rfl
theorem ml_L_111 : Cond.methodLink RL 111 yX11_ask ∈ am_tbl := am_in 1163 (by decide +kernel) rfl
theorem ml_X11_381 : Cond.methodLink RX11 381 yX10_mostAgreeing ∈ am_tbl := am_in 1167 (by decide +kernel) rfl
theorem ml_X10_66 : Cond.methodLink RX10 66 Lib.Math.max.name ∈ am_tbl := am_in 1171 (by decide +kernel) rfl
theorem ml_L_115 : Cond.methodLink RL 115 yX11_tale ∈ am_tbl := am_in 1172 (by decide +kernel) rfl
theorem ml_X11_384 : Cond.methodLink RX11 384 yX5_forgetTales ∈ am_tbl := am_in 1176 (by decide +kernel) rfl
theorem ml_X11_387 : Cond.methodLink RX11 387 yX5_addTale ∈ am_tbl := am_in 1177 (by decide +kernel) rfl
theorem ml_L_120 : Cond.methodLink RL 120 yX11_schedules ∈ am_tbl := am_in 1181 (by decide +kernel) rfl
theorem ml_X11_391 : Cond.methodLink RX11 391 yX5_fitsTales ∈ am_tbl := am_in 1185 (by decide +kernel) rfl
theorem ml_L_124 : Cond.methodLink RL 124 yX11_seed ∈ am_tbl := am_in 1189 (by decide +kernel) rfl
theorem ml_L_128 : Cond.methodLink RL 128 yX11_years ∈ am_tbl := am_in 1193 (by decide +kernel) rfl
theorem ml_X11_397 : Cond.methodLink RX11 397 yX2_copyFrom ∈ am_tbl := am_in 1197 (by decide +kernel) rfl
theorem ml_X11_400 : Cond.methodLink RX11 400 yX11_tryDay ∈ am_tbl := am_in 1198 (by decide +kernel) rfl
theorem ml_X11_403 : Cond.methodLink RX11 403 yX11_draw ∈ am_tbl := am_in 1202 (by decide +kernel) rfl
theorem ml_X11_412 : Cond.methodLink RX11 412 yX2_liedToOnce ∈ am_tbl := am_in 1210 (by decide +kernel) rfl
theorem ml_L_136 : Cond.methodLink RL 136 yX11_image ∈ am_tbl := am_in 1214 (by decide +kernel) rfl
theorem ml_X11_422 : Cond.methodLink RX11 422 yX5_copyFrom ∈ am_tbl := am_in 1218 (by decide +kernel) rfl
theorem ml_X5_37 : Cond.methodLink RX5 37 yX2_copyFrom ∈ am_tbl := am_in 1222 (by decide +kernel) rfl
theorem ml_X5_46 : Cond.methodLink RX5 46 arraycopyName ∈ am_tbl := am_in 1223 (by decide +kernel) rfl
theorem ml_L_140 : Cond.methodLink RL 140 yX11_back ∈ am_tbl := am_in 1224 (by decide +kernel) rfl
theorem ml_L_12 : Cond.methodLink RL 12 yX12_init ∈ am_tbl := am_in 1230 (by decide +kernel) rfl
theorem ml_X12_1 : Cond.methodLink RX12 1 Lib.objectInit ∈ am_tbl := am_in 1233 (by decide +kernel) rfl
theorem ml_L_17 : Cond.methodLink RL 17 yX12_feed ∈ am_tbl := am_in 1331 (by decide +kernel) rfl
theorem ml_X12_71 : Cond.methodLink RX12 71 yX12_four ∈ am_tbl := am_in 1335 (by decide +kernel) rfl
theorem ml_L_22 : Cond.methodLink RL 22 yX12_end ∈ am_tbl := am_in 1339 (by decide +kernel) rfl
theorem ml_L_31 : Cond.methodLink RL 31 yX12_rule ∈ am_tbl := am_in 1343 (by decide +kernel) rfl
theorem ml_X12_278 : Cond.methodLink RX12 278 yX12_readsAll ∈ am_tbl := am_in 1347 (by decide +kernel) rfl
theorem ml_X12_272 : Cond.methodLink RX12 272 yX12_clauseHere ∈ am_tbl := am_in 1351 (by decide +kernel) rfl
theorem ml_X12_81 : Cond.methodLink RX12 81 yX12_see ∈ am_tbl := am_in 1355 (by decide +kernel) rfl
theorem ml_X12_256 : Cond.methodLink RX12 256 yX12_isTownWord ∈ am_tbl := am_in 1359 (by decide +kernel) rfl
theorem ml_X12_89 : Cond.methodLink RX12 89 yX12_isWord ∈ am_tbl := am_in 1364 (by decide +kernel) rfl
theorem ml_X12_85 : Cond.methodLink RX12 85 yX12_isLetter ∈ am_tbl := am_in 1368 (by decide +kernel) rfl
theorem ml_X12_99 : Cond.methodLink RX12 99 yX12_fails ∈ am_tbl := am_in 1381 (by decide +kernel) rfl
theorem ml_X12_266 : Cond.methodLink RX12 266 yX12_townLineHere ∈ am_tbl := am_in 1385 (by decide +kernel) rfl
theorem ml_X12_226 : Cond.methodLink RX12 226 yX12_areFactsHere ∈ am_tbl := am_in 1389 (by decide +kernel) rfl
theorem ml_X12_93 : Cond.methodLink RX12 93 yX12_passWord ∈ am_tbl := am_in 1393 (by decide +kernel) rfl
theorem ml_X12_210 : Cond.methodLink RX12 210 yX12_cellHere ∈ am_tbl := am_in 1397 (by decide +kernel) rfl
theorem ml_X12_159 : Cond.methodLink RX12 159 yX12_numberHere ∈ am_tbl := am_in 1401 (by decide +kernel) rfl
theorem ml_X12_96 : Cond.methodLink RX12 96 yX12_isDigit ∈ am_tbl := am_in 1405 (by decide +kernel) rfl
theorem ml_X12_106 : Cond.methodLink RX12 106 yX12_in ∈ am_tbl := am_in 1409 (by decide +kernel) rfl
theorem ml_X12_231 : Cond.methodLink RX12 231 yX12_isPersonHere ∈ am_tbl := am_in 1412 (by decide +kernel) rfl
theorem ml_X12_214 : Cond.methodLink RX12 214 yX12_isOf ∈ am_tbl := am_in 1416 (by decide +kernel) rfl
theorem ml_X12_234 : Cond.methodLink RX12 234 yX12_isTrustHere ∈ am_tbl := am_in 1419 (by decide +kernel) rfl
theorem ml_X12_217 : Cond.methodLink RX12 217 yX12_otherHere ∈ am_tbl := am_in 1423 (by decide +kernel) rfl
theorem ml_X12_239 : Cond.methodLink RX12 239 yX12_isStreetHere ∈ am_tbl := am_in 1427 (by decide +kernel) rfl
theorem ml_X12_220 : Cond.methodLink RX12 220 yX12_readStreet ∈ am_tbl := am_in 1431 (by decide +kernel) rfl
theorem ml_X12_242 : Cond.methodLink RX12 242 yX12_isIfHere ∈ am_tbl := am_in 1435 (by decide +kernel) rfl
theorem ml_X12_245 : Cond.methodLink RX12 245 yX12_isHarmHere ∈ am_tbl := am_in 1439 (by decide +kernel) rfl
theorem ml_X12_248 : Cond.methodLink RX12 248 yX12_isChildHere ∈ am_tbl := am_in 1443 (by decide +kernel) rfl
theorem ml_X12_251 : Cond.methodLink RX12 251 yX12_isCorrectHere ∈ am_tbl := am_in 1447 (by decide +kernel) rfl
theorem ml_X12_269 : Cond.methodLink RX12 269 yX12_isDoingHere ∈ am_tbl := am_in 1451 (by decide +kernel) rfl
theorem ml_X12_175 : Cond.methodLink RX12 175 yX12_sum ∈ am_tbl := am_in 1455 (by decide +kernel) rfl
theorem ml_X12_172 : Cond.methodLink RX12 172 yX12_term ∈ am_tbl := am_in 1459 (by decide +kernel) rfl
theorem ml_X12_168 : Cond.methodLink RX12 168 yX12_value ∈ am_tbl := am_in 1463 (by decide +kernel) rfl
theorem ml_X12_162 : Cond.methodLink RX12 162 yX12_makes ∈ am_tbl := am_in 1468 (by decide +kernel) rfl
theorem ml_X12_154 : Cond.methodLink RX12 154 yX12_puts ∈ am_tbl := am_in 1472 (by decide +kernel) rfl
theorem ml_X12_165 : Cond.methodLink RX12 165 yX12_wordHere ∈ am_tbl := am_in 1476 (by decide +kernel) rfl
theorem ml_X12_204 : Cond.methodLink RX12 204 yX12_takesWord ∈ am_tbl := am_in 1491 (by decide +kernel) rfl
theorem ml_X12_207 : Cond.methodLink RX12 207 yX12_tested ∈ am_tbl := am_in 1495 (by decide +kernel) rfl
theorem ml_X12_192 : Cond.methodLink RX12 192 yX12_fact ∈ am_tbl := am_in 1499 (by decide +kernel) rfl
theorem ml_X12_180 : Cond.methodLink RX12 180 yX12_opens ∈ am_tbl := am_in 1504 (by decide +kernel) rfl
theorem ml_X12_183 : Cond.methodLink RX12 183 yX12_compare ∈ am_tbl := am_in 1508 (by decide +kernel) rfl
theorem ml_X12_195 : Cond.methodLink RX12 195 yX12_closes ∈ am_tbl := am_in 1512 (by decide +kernel) rfl
theorem ml_X12_186 : Cond.methodLink RX12 186 yX12_settles ∈ am_tbl := am_in 1516 (by decide +kernel) rfl
theorem ml_X12_150 : Cond.methodLink RX12 150 yX12_strength ∈ am_tbl := am_in 1520 (by decide +kernel) rfl
theorem ml_X12_189 : Cond.methodLink RX12 189 yX12_isInside ∈ am_tbl := am_in 1523 (by decide +kernel) rfl
theorem ml_L_27 : Cond.methodLink RL 27 yX12_town ∈ am_tbl := am_in 1529 (by decide +kernel) rfl
theorem ml_L_35 : Cond.methodLink RL 35 yX12_charter ∈ am_tbl := am_in 1533 (by decide +kernel) rfl
theorem ml_X12_302 : Cond.methodLink RX12 302 yX12_isRule ∈ am_tbl := am_in 1537 (by decide +kernel) rfl
theorem ml_L_40 : Cond.methodLink RL 40 yX12_holds ∈ am_tbl := am_in 1541 (by decide +kernel) rfl
theorem ml_X12_317 : Cond.methodLink RX12 317 yX12_isPerson ∈ am_tbl := am_in 1545 (by decide +kernel) rfl
theorem ml_X12_320 : Cond.methodLink RX12 320 yX12_isFact ∈ am_tbl := am_in 1549 (by decide +kernel) rfl
theorem ml_X12_305 : Cond.methodLink RX12 305 yX12_holdOf ∈ am_tbl := am_in 1554 (by decide +kernel) rfl
theorem ml_X12_325 : Cond.methodLink RX12 325 yX12_strengthOf ∈ am_tbl := am_in 1558 (by decide +kernel) rfl
theorem ml_X12_328 : Cond.methodLink RX12 328 yX12_believedOf ∈ am_tbl := am_in 1562 (by decide +kernel) rfl
theorem ml_X12_311 : Cond.methodLink RX12 311 yX12_believes ∈ am_tbl := am_in 1566 (by decide +kernel) rfl
theorem ml_X12_308 : Cond.methodLink RX12 308 yX12_isIfOpen ∈ am_tbl := am_in 1570 (by decide +kernel) rfl
theorem ml_L_45 : Cond.methodLink RL 45 yX12_person ∈ am_tbl := am_in 1574 (by decide +kernel) rfl
theorem ml_X12_314 : Cond.methodLink RX12 314 yX12_harmBelieved ∈ am_tbl := am_in 1579 (by decide +kernel) rfl
theorem ml_X12_333 : Cond.methodLink RX12 333 yX12_contradictions ∈ am_tbl := am_in 1583 (by decide +kernel) rfl
theorem ml_X12_336 : Cond.methodLink RX12 336 yX12_besides ∈ am_tbl := am_in 1587 (by decide +kernel) rfl
theorem ml_X12_299 : Cond.methodLink RX12 299 yX12_streetOf ∈ am_tbl := am_in 1591 (by decide +kernel) rfl
theorem ml_L_49 : Cond.methodLink RL 49 yX12_trust ∈ am_tbl := am_in 1595 (by decide +kernel) rfl
theorem ml_X12_339 : Cond.methodLink RX12 339 yX12_trustOf ∈ am_tbl := am_in 1599 (by decide +kernel) rfl
theorem ml_L_74 : Cond.methodLink RL 74 yX12_undo ∈ am_tbl := am_in 1603 (by decide +kernel) rfl
theorem ml_L_54 : Cond.methodLink RL 54 yX12_say ∈ am_tbl := am_in 1607 (by decide +kernel) rfl
theorem ml_X12_370 : Cond.methodLink RX12 370 yX12_maySay ∈ am_tbl := am_in 1611 (by decide +kernel) rfl
theorem ml_X12_374 : Cond.methodLink RX12 374 yX12_keepsAct ∈ am_tbl := am_in 1615 (by decide +kernel) rfl
theorem ml_X12_377 : Cond.methodLink RX12 377 yX12_says ∈ am_tbl := am_in 1619 (by decide +kernel) rfl
theorem ml_X12_363 : Cond.methodLink RX12 363 yX12_isLie ∈ am_tbl := am_in 1623 (by decide +kernel) rfl
theorem ml_X12_348 : Cond.methodLink RX12 348 yX12_hasLies ∈ am_tbl := am_in 1627 (by decide +kernel) rfl
theorem ml_X12_342 : Cond.methodLink RX12 342 yX12_soOf ∈ am_tbl := am_in 1631 (by decide +kernel) rfl
theorem ml_X12_351 : Cond.methodLink RX12 351 yX12_words ∈ am_tbl := am_in 1635 (by decide +kernel) rfl
theorem ml_X12_345 : Cond.methodLink RX12 345 yX12_harmAlone ∈ am_tbl := am_in 1639 (by decide +kernel) rfl
theorem ml_X12_355 : Cond.methodLink RX12 355 yX12_reckons ∈ am_tbl := am_in 1643 (by decide +kernel) rfl
theorem ml_X12_287 : Cond.methodLink RX12 287 yX12_push ∈ am_tbl := am_in 1647 (by decide +kernel) rfl
theorem ml_X12_291 : Cond.methodLink RX12 291 yX12_pop ∈ am_tbl := am_in 1651 (by decide +kernel) rfl
theorem ml_X12_295 : Cond.methodLink RX12 295 yX12_one ∈ am_tbl := am_in 1655 (by decide +kernel) rfl
theorem ml_X12_367 : Cond.methodLink RX12 367 yX12_isTold ∈ am_tbl := am_in 1658 (by decide +kernel) rfl
theorem ml_X12_359 : Cond.methodLink RX12 359 yX12_holdsNow ∈ am_tbl := am_in 1662 (by decide +kernel) rfl
theorem ml_L_58 : Cond.methodLink RL 58 yX12_would ∈ am_tbl := am_in 1666 (by decide +kernel) rfl
theorem ml_L_62 : Cond.methodLink RL 62 yX12_meet ∈ am_tbl := am_in 1670 (by decide +kernel) rfl
theorem ml_X12_381 : Cond.methodLink RX12 381 yX12_passesOn ∈ am_tbl := am_in 1674 (by decide +kernel) rfl
theorem ml_L_66 : Cond.methodLink RL 66 yX12_hour ∈ am_tbl := am_in 1678 (by decide +kernel) rfl
theorem ml_X12_384 : Cond.methodLink RX12 384 yX12_isTown ∈ am_tbl := am_in 1682 (by decide +kernel) rfl
theorem ml_L_70 : Cond.methodLink RL 70 yX12_midnight ∈ am_tbl := am_in 1686 (by decide +kernel) rfl
theorem ml_X12_387 : Cond.methodLink RX12 387 yX12_dayComes ∈ am_tbl := am_in 1690 (by decide +kernel) rfl
theorem ml_L_78 : Cond.methodLink RL 78 yX12_run ∈ am_tbl := am_in 1694 (by decide +kernel) rfl
theorem ml_X12_396 : Cond.methodLink RX12 396 yX12_passes ∈ am_tbl := am_in 1699 (by decide +kernel) rfl
theorem ml_X12_390 : Cond.methodLink RX12 390 yX12_summedBy ∈ am_tbl := am_in 1703 (by decide +kernel) rfl
theorem ml_L_82 : Cond.methodLink RL 82 yX12_breach ∈ am_tbl := am_in 1707 (by decide +kernel) rfl
theorem ml_L_86 : Cond.methodLink RL 86 yX12_tellers ∈ am_tbl := am_in 1711 (by decide +kernel) rfl
theorem ml_X12_399 : Cond.methodLink RX12 399 yX12_bits ∈ am_tbl := am_in 1715 (by decide +kernel) rfl
theorem ml_X12_402 : Cond.methodLink RX12 402 yX12_areTold ∈ am_tbl := am_in 1718 (by decide +kernel) rfl
theorem ml_L_90 : Cond.methodLink RL 90 yX12_leastLie ∈ am_tbl := am_in 1722 (by decide +kernel) rfl
theorem ml_X12_412 : Cond.methodLink RX12 412 yX12_leastFact ∈ am_tbl := am_in 1726 (by decide +kernel) rfl
theorem ml_X12_408 : Cond.methodLink RX12 408 yX12_harmBehind ∈ am_tbl := am_in 1730 (by decide +kernel) rfl
theorem ml_X12_405 : Cond.methodLink RX12 405 yX12_harmOf ∈ am_tbl := am_in 1734 (by decide +kernel) rfl
theorem ml_L_94 : Cond.methodLink RL 94 yX12_evening ∈ am_tbl := am_in 1738 (by decide +kernel) rfl
theorem ml_L_98 : Cond.methodLink RL 98 yX12_walls ∈ am_tbl := am_in 1742 (by decide +kernel) rfl
theorem ml_X12_418 : Cond.methodLink RX12 418 yX12_isParted ∈ am_tbl := am_in 1746 (by decide +kernel) rfl
theorem ml_X12_415 : Cond.methodLink RX12 415 yX12_stepped ∈ am_tbl := am_in 1750 (by decide +kernel) rfl
theorem ml_L_102 : Cond.methodLink RL 102 yX12_leak ∈ am_tbl := am_in 1754 (by decide +kernel) rfl
theorem ml_L_106 : Cond.methodLink RL 106 yX12_stated ∈ am_tbl := am_in 1758 (by decide +kernel) rfl
theorem ml_L_110 : Cond.methodLink RL 110 yX12_truths ∈ am_tbl := am_in 1762 (by decide +kernel) rfl
theorem ml_X12_424 : Cond.methodLink RX12 424 yX12_isTruth ∈ am_tbl := am_in 1766 (by decide +kernel) rfl
theorem ml_X12_421 : Cond.methodLink RX12 421 yX12_statedBy ∈ am_tbl := am_in 1770 (by decide +kernel) rfl
theorem ml_X12_427 : Cond.methodLink RX12 427 yX12_peopleOf ∈ am_tbl := am_in 1774 (by decide +kernel) rfl
theorem ml_L_114 : Cond.methodLink RL 114 yX12_ask ∈ am_tbl := am_in 1778 (by decide +kernel) rfl
theorem ml_L_119 : Cond.methodLink RL 119 yX12_tale ∈ am_tbl := am_in 1782 (by decide +kernel) rfl
theorem ml_L_123 : Cond.methodLink RL 123 yX12_schedules ∈ am_tbl := am_in 1787 (by decide +kernel) rfl
theorem ml_X12_434 : Cond.methodLink RX12 434 yX12_fitsTales ∈ am_tbl := am_in 1792 (by decide +kernel) rfl
theorem ml_L_127 : Cond.methodLink RL 127 yX12_seed ∈ am_tbl := am_in 1796 (by decide +kernel) rfl
theorem ml_L_131 : Cond.methodLink RL 131 yX12_years ∈ am_tbl := am_in 1800 (by decide +kernel) rfl
theorem ml_X12_457 : Cond.methodLink RX12 457 yX12_drawsDay ∈ am_tbl := am_in 1805 (by decide +kernel) rfl
theorem ml_X12_452 : Cond.methodLink RX12 452 yX12_draw ∈ am_tbl := am_in 1809 (by decide +kernel) rfl
theorem ml_L_135 : Cond.methodLink RL 135 yX12_count ∈ am_tbl := am_in 1817 (by decide +kernel) rfl
theorem ml_L_139 : Cond.methodLink RL 139 yX12_image ∈ am_tbl := am_in 1821 (by decide +kernel) rfl
theorem ml_L_143 : Cond.methodLink RL 143 yX12_back ∈ am_tbl := am_in 1826 (by decide +kernel) rfl
theorem mn_X11_15 : Cond.methodLinkNest RX11 15 yX7_init "DailyLie" ∈ am_nest := am_inN 153 (by decide +kernel) rfl
theorem mn_X11_22 : Cond.methodLinkNest RX11 22 yX8_init "DailyLie" ∈ am_nest := am_inN 181 (by decide +kernel) rfl
theorem mn_X11_35 : Cond.methodLinkNest RX11 35 yX5_init "DailyLie" ∈ am_nest := am_inN 269 (by decide +kernel) rfl
theorem mn_X5_11 : Cond.methodLinkNest RX5 11 yX8_init "DailyLie" ∈ am_nest := am_inN 274 (by decide +kernel) rfl
theorem mn_X5_20 : Cond.methodLinkNest RX5 20 yX2_init "DailyLie" ∈ am_nest := am_inN 277 (by decide +kernel) rfl
theorem mn_X0_17 : Cond.methodLinkNest RX0 17 yX2_init "DailyLie" ∈ am_nest := am_inN 364 (by decide +kernel) rfl
theorem mn_X11_73 : Cond.methodLinkNest RX11 73 yX10_init "DailyLie" ∈ am_nest := am_inN 418 (by decide +kernel) rfl
theorem mn_X11_80 : Cond.methodLinkNest RX11 80 yX2_init "DailyLie" ∈ am_nest := am_inN 447 (by decide +kernel) rfl
theorem mn_X8_82 : Cond.methodLinkNest RX8 82 yX11_bit "DailyLie" ∈ am_nest := am_inN 817 (by decide +kernel) rfl
theorem mn_X2_45 : Cond.methodLinkNest RX2 45 yX11_bit "DailyLie" ∈ am_nest := am_inN 865 (by decide +kernel) rfl
theorem mn_X6_37 : Cond.methodLinkNest RX6 37 yX11_bit "DailyLie" ∈ am_nest := am_inN 998 (by decide +kernel) rfl
theorem mn_X10_58 : Cond.methodLinkNest RX10 58 yX11_bit "DailyLie" ∈ am_nest := am_inN 1158 (by decide +kernel) rfl
theorem kl_X11_415 : Cond.constantLong RX11 415 (1103515245) ∈ am_tbl := am_in 1206 (by decide +kernel) rfl
theorem kl_X11_417 : Cond.constantLong RX11 417 (12345) ∈ am_tbl := am_in 1207 (by decide +kernel) rfl
theorem kl_X11_419 : Cond.constantLong RX11 419 (2147483648) ∈ am_tbl := am_in 1208 (by decide +kernel) rfl
theorem kl_X12_224 : Cond.constantLong RX12 224 (439720572019) ∈ am_tbl := am_in 1363 (by decide +kernel) rfl
theorem kl_X12_229 : Cond.constantLong RX12 229 (123581014175598) ∈ am_tbl := am_in 1372 (by decide +kernel) rfl
theorem kl_X12_128 : Cond.constantLong RX12 128 (500136506228) ∈ am_tbl := am_in 1373 (by decide +kernel) rfl
theorem kl_X12_237 : Cond.constantLong RX12 237 (126943972648308) ∈ am_tbl := am_in 1374 (by decide +kernel) rfl
theorem kl_X12_202 : Cond.constantLong RX12 202 (26982) ∈ am_tbl := am_in 1375 (by decide +kernel) rfl
theorem kl_X12_130 : Cond.constantLong RX12 130 (1751216749) ∈ am_tbl := am_in 1376 (by decide +kernel) rfl
theorem kl_X12_126 : Cond.constantLong RX12 126 (426953501796) ∈ am_tbl := am_in 1377 (by decide +kernel) rfl
theorem kl_X12_254 : Cond.constantLong RX12 254 (27988560030557044) ∈ am_tbl := am_in 1378 (by decide +kernel) rfl
theorem kl_X12_259 : Cond.constantLong RX12 259 (7104869) ∈ am_tbl := am_in 1379 (by decide +kernel) rfl
theorem kl_X12_261 : Cond.constantLong RX12 261 (7561593) ∈ am_tbl := am_in 1380 (by decide +kernel) rfl
theorem kl_X12_110 : Cond.constantLong RX12 110 (127978959562098) ∈ am_tbl := am_in 1480 (by decide +kernel) rfl
theorem kl_X12_112 : Cond.constantLong RX12 112 (114784635872626) ∈ am_tbl := am_in 1481 (by decide +kernel) rfl
theorem kl_X12_114 : Cond.constantLong RX12 114 (1717658484) ∈ am_tbl := am_in 1482 (by decide +kernel) rfl
theorem kl_X12_116 : Cond.constantLong RX12 116 (1935763812) ∈ am_tbl := am_in 1483 (by decide +kernel) rfl
theorem kl_X12_118 : Cond.constantLong RX12 118 (29551) ∈ am_tbl := am_in 1484 (by decide +kernel) rfl
theorem kl_X12_120 : Cond.constantLong RX12 120 (448545973363) ∈ am_tbl := am_in 1485 (by decide +kernel) rfl
theorem kl_X12_122 : Cond.constantLong RX12 122 (448377483876) ∈ am_tbl := am_in 1486 (by decide +kernel) rfl
theorem kl_X12_124 : Cond.constantLong RX12 124 (1818846579) ∈ am_tbl := am_in 1487 (by decide +kernel) rfl
theorem kl_X12_132 : Cond.constantLong RX12 132 (126879297138276) ∈ am_tbl := am_in 1488 (by decide +kernel) rfl
theorem kl_X12_134 : Cond.constantLong RX12 134 (1752135026) ∈ am_tbl := am_in 1489 (by decide +kernel) rfl
theorem kl_X12_136 : Cond.constantLong RX12 136 (6578553) ∈ am_tbl := am_in 1490 (by decide +kernel) rfl
theorem kl_X12_178 : Cond.constantLong RX12 178 (7237492) ∈ am_tbl := am_in 1503 (by decide +kernel) rfl
theorem kl_X12_198 : Cond.constantLong RX12 198 (6385252) ∈ am_tbl := am_in 1527 (by decide +kernel) rfl
theorem kl_X12_200 : Cond.constantLong RX12 200 (28530) ∈ am_tbl := am_in 1528 (by decide +kernel) rfl
theorem kl_X12_323 : Cond.constantLong RX12 323 (2) ∈ am_tbl := am_in 1553 (by decide +kernel) rfl
theorem kl_X12_331 : Cond.constantLong RX12 331 (4) ∈ am_tbl := am_in 1578 (by decide +kernel) rfl
theorem kl_X12_394 : Cond.constantLong RX12 394 (96) ∈ am_tbl := am_in 1698 (by decide +kernel) rfl
theorem kl_X12_430 : Cond.constantLong RX12 430 (9) ∈ am_tbl := am_in 1786 (by decide +kernel) rfl
theorem kl_X12_432 : Cond.constantLong RX12 432 (10) ∈ am_tbl := am_in 1791 (by decide +kernel) rfl
theorem kl_X12_455 : Cond.constantLong RX12 455 (20) ∈ am_tbl := am_in 1804 (by decide +kernel) rfl
theorem kl_X12_444 : Cond.constantLong RX12 444 (1103515245) ∈ am_tbl := am_in 1813 (by decide +kernel) rfl
theorem kl_X12_446 : Cond.constantLong RX12 446 (12345) ∈ am_tbl := am_in 1814 (by decide +kernel) rfl
theorem kl_X12_448 : Cond.constantLong RX12 448 (2147483648) ∈ am_tbl := am_in 1815 (by decide +kernel) rfl
theorem kl_X12_450 : Cond.constantLong RX12 450 (65536) ∈ am_tbl := am_in 1816 (by decide +kernel) rfl
theorem kl_X12_460 : Cond.constantLong RX12 460 (3) ∈ am_tbl := am_in 1825 (by decide +kernel) rfl
theorem ki_J6_265 : Cond.constant RJ6 265 (1431655765) ∈ am_tbl := am_in 1091 (by decide +kernel) rfl
theorem ki_J6_266 : Cond.constant RJ6 266 (858993459) ∈ am_tbl := am_in 1092 (by decide +kernel) rfl
theorem ki_J6_267 : Cond.constant RJ6 267 (252645135) ∈ am_tbl := am_in 1093 (by decide +kernel) rfl
theorem ki_X11_421 : Cond.constant RX11 421 (65536) ∈ am_tbl := am_in 1209 (by decide +kernel) rfl
theorem ki_X12_158 : Cond.constant RX12 158 (99999) ∈ am_tbl := am_in 1467 (by decide +kernel) rfl
theorem cl_L_7 : Cond.classLink RL 7 RX11 ∈ am_tbl := am_in 143 (by decide +kernel) rfl
theorem cl_X11_13 : Cond.classLink RX11 13 RX7 ∈ am_tbl := am_in 151 (by decide +kernel) rfl
theorem cl_X11_20 : Cond.classLink RX11 20 RX8 ∈ am_tbl := am_in 179 (by decide +kernel) rfl
theorem cl_X11_27 : Cond.classLink RX11 27 RX3 ∈ am_tbl := am_in 265 (by decide +kernel) rfl
theorem cl_X11_33 : Cond.classLink RX11 33 RX5 ∈ am_tbl := am_in 267 (by decide +kernel) rfl
theorem cl_X5_9 : Cond.classLink RX5 9 RX8 ∈ am_tbl := am_in 273 (by decide +kernel) rfl
theorem cl_X5_18 : Cond.classLink RX5 18 RX2 ∈ am_tbl := am_in 275 (by decide +kernel) rfl
theorem cl_X11_48 : Cond.classLink RX11 48 RX0 ∈ am_tbl := am_in 356 (by decide +kernel) rfl
theorem cl_X0_9 : Cond.classLink RX0 9 RX2 ∈ am_tbl := am_in 362 (by decide +kernel) rfl
theorem cl_X11_55 : Cond.classLink RX11 55 RX6 ∈ am_tbl := am_in 377 (by decide +kernel) rfl
theorem cl_X11_71 : Cond.classLink RX11 71 RX10 ∈ am_tbl := am_in 416 (by decide +kernel) rfl
theorem cl_X11_78 : Cond.classLink RX11 78 RX2 ∈ am_tbl := am_in 446 (by decide +kernel) rfl
theorem cl_X11_91 : Cond.classLink RX11 91 RX9 ∈ am_tbl := am_in 487 (by decide +kernel) rfl
theorem cl_X11_100 : Cond.classLink RX11 100 RX4 ∈ am_tbl := am_in 507 (by decide +kernel) rfl
theorem cl_L_10 : Cond.classLink RL 10 RX12 ∈ am_tbl := am_in 1228 (by decide +kernel) rfl
theorem ci_X0 : Cond.instantiable RX0 3 ∈ am_tbl := am_in 357 (by decide +kernel) rfl
theorem cn_X0 : Cond.initialized RX0 ∈ am_tbl := am_in 127 (by decide +kernel) rfl
theorem ci_X2 : Cond.instantiable RX2 8 ∈ am_tbl := am_in 276 (by decide +kernel) rfl
theorem cn_X2 : Cond.initialized RX2 ∈ am_tbl := am_in 126 (by decide +kernel) rfl
theorem ci_X3 : Cond.instantiable RX3 10 ∈ am_tbl := am_in 448 (by decide +kernel) rfl
theorem cn_X3 : Cond.initialized RX3 ∈ am_tbl := am_in 130 (by decide +kernel) rfl
theorem ci_X4 : Cond.instantiable RX4 3 ∈ am_tbl := am_in 508 (by decide +kernel) rfl
theorem cn_X4 : Cond.initialized RX4 ∈ am_tbl := am_in 133 (by decide +kernel) rfl
theorem ci_X5 : Cond.instantiable RX5 9 ∈ am_tbl := am_in 268 (by decide +kernel) rfl
theorem cn_X5 : Cond.initialized RX5 ∈ am_tbl := am_in 125 (by decide +kernel) rfl
theorem ci_X6 : Cond.instantiable RX6 7 ∈ am_tbl := am_in 378 (by decide +kernel) rfl
theorem cn_X6 : Cond.initialized RX6 ∈ am_tbl := am_in 128 (by decide +kernel) rfl
theorem ci_X7 : Cond.instantiable RX7 6 ∈ am_tbl := am_in 152 (by decide +kernel) rfl
theorem cn_X7 : Cond.initialized RX7 ∈ am_tbl := am_in 123 (by decide +kernel) rfl
theorem ci_X8 : Cond.instantiable RX8 16 ∈ am_tbl := am_in 180 (by decide +kernel) rfl
theorem cn_X8 : Cond.initialized RX8 ∈ am_tbl := am_in 124 (by decide +kernel) rfl
theorem ci_X9 : Cond.instantiable RX9 2 ∈ am_tbl := am_in 488 (by decide +kernel) rfl
theorem cn_X9 : Cond.initialized RX9 ∈ am_tbl := am_in 132 (by decide +kernel) rfl
theorem ci_X10 : Cond.instantiable RX10 6 ∈ am_tbl := am_in 417 (by decide +kernel) rfl
theorem cn_X10 : Cond.initialized RX10 ∈ am_tbl := am_in 129 (by decide +kernel) rfl
theorem ci_X11 : Cond.instantiable RX11 17 ∈ am_tbl := am_in 144 (by decide +kernel) rfl
theorem cn_X11 : Cond.initialized RX11 ∈ am_tbl := am_in 122 (by decide +kernel) rfl
theorem ci_X12 : Cond.instantiable RX12 32 ∈ am_tbl := am_in 1229 (by decide +kernel) rfl
theorem cn_X12 : Cond.initialized RX12 ∈ am_tbl := am_in 134 (by decide +kernel) rfl
theorem ca_int : Cond.arrayClass (newarray.typeOf .int) ∈ am_tbl := am_in 178 (by decide +kernel) rfl
theorem ca_byte : Cond.arrayClass (newarray.typeOf .byte) ∈ am_tbl := am_in 177 (by decide +kernel) rfl
theorem ca_long : Cond.arrayClass (newarray.typeOf .long) ∈ am_tbl := am_in 486 (by decide +kernel) rfl
theorem ca_boolean : Cond.arrayClass (newarray.typeOf .boolean) ∈ am_tbl := am_in 376 (by decide +kernel) rfl
theorem co_X2 : Cond.arrayOver (.object "DailyLie$Life") ∈ am_nest := am_inN 363 (by decide +kernel) rfl
theorem co_X3 : Cond.arrayOver (.object "DailyLie$Rule") ∈ am_nest := am_inN 266 (by decide +kernel) rfl
theorem co_X5 : Cond.arrayOver (.object "DailyLie$Situation") ∈ am_nest := am_inN 355 (by decide +kernel) rfl
theorem jo_1 : Cond.instanceMethod Lib.objectInit ∈ am_tbl := am_in 149 (by decide +kernel) rfl
theorem jo_2 : Cond.code Lib.objectInit ⟨#[0xb1]⟩ 1 none ∈ am_tbl := am_in 150 (by decide +kernel) rfl
theorem jc_1 : Cond.native arraycopyName ∈ am_tbl := am_in 859 (by decide +kernel) rfl
theorem jc_2 : Cond.static arraycopyName ∈ am_tbl := am_in 858 (by decide +kernel) rfl
theorem jc_3 : Cond.initialized "java/lang/System" ∈ am_tbl := am_in 140 (by decide +kernel) rfl
theorem jm_0 : Cond.initialized "java/lang/Math" ∈ am_tbl := am_in 141 (by decide +kernel) rfl
theorem jm_min1 : Cond.static Lib.Math.min.name ∈ am_tbl := am_in 1030 (by decide +kernel) rfl
theorem jm_min2 : Cond.code Lib.Math.min.name Lib.Math.min.code 2 (some .int) ∈ am_tbl := am_in 1031 (by decide +kernel) rfl
theorem jm_max1 : Cond.static Lib.Math.max.name ∈ am_tbl := am_in 1033 (by decide +kernel) rfl
theorem jm_max2 : Cond.code Lib.Math.max.name Lib.Math.max.code 2 (some .int) ∈ am_tbl := am_in 1034 (by decide +kernel) rfl
