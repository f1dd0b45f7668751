set_option maxRecDepth 100000 in
theorem xc_D : xCls x_cl x_T 0 R_D F_D ty_D := ⟨rfl, by decide, by decide +kernel, by decide +kernel, by decide +kernel⟩
set_option maxRecDepth 100000 in
theorem xc_Row : xCls x_cl x_T 1 R_Row F_Row ty_Row := ⟨rfl, by decide, by decide +kernel, by decide +kernel, by decide +kernel⟩
set_option maxRecDepth 100000 in
theorem xc_Gathering : xCls x_cl x_T 2 R_Gathering F_Gathering ty_Gathering := ⟨rfl, by decide, by decide +kernel, by decide +kernel, by decide +kernel⟩
set_option maxRecDepth 100000 in
theorem xc_Terms : xCls x_cl x_T 3 R_Terms F_Terms ty_Terms := ⟨rfl, by decide, by decide +kernel, by decide +kernel, by decide +kernel⟩
set_option maxRecDepth 100000 in
theorem xc_Machine : xCls x_cl x_T 4 R_Machine F_Machine ty_Machine := ⟨rfl, by decide, by decide +kernel, by decide +kernel, by decide +kernel⟩
set_option maxRecDepth 100000 in
theorem xc_Explorer : xCls x_cl x_T 5 R_Explorer F_Explorer ty_Explorer := ⟨rfl, by decide, by decide +kernel, by decide +kernel, by decide +kernel⟩
set_option maxRecDepth 100000 in
theorem xc_WordCheck : xCls x_cl x_T 6 R_WordCheck F_WordCheck ty_WordCheck := ⟨rfl, by decide, by decide +kernel, by decide +kernel, by decide +kernel⟩
set_option maxRecDepth 100000 in
theorem xc_Splitter : xCls x_cl x_T 7 R_Splitter F_Splitter ty_Splitter := ⟨rfl, by decide, by decide +kernel, by decide +kernel, by decide +kernel⟩
set_option maxRecDepth 100000 in
theorem xc_Comparison : xCls x_cl x_T 8 R_Comparison F_Comparison ty_Comparison := ⟨rfl, by decide, by decide +kernel, by decide +kernel, by decide +kernel⟩
set_option maxRecDepth 100000 in
theorem xc_WordCounts : xCls x_cl x_T 9 R_WordCounts F_WordCounts ty_WordCounts := ⟨rfl, by decide, by decide +kernel, by decide +kernel, by decide +kernel⟩
set_option maxRecDepth 100000 in
theorem xc_Mo : xCls x_cl x_T 10 R_Mo F_Mo ty_Mo := ⟨rfl, by decide, by decide +kernel, by decide +kernel, by decide +kernel⟩
set_option maxRecDepth 100000 in
theorem sr_0_0 : x_sr 0 0 = 1 := by decide +kernel
set_option maxRecDepth 100000 in
theorem sr_0_1 : x_sr 0 1 = 2 := by decide +kernel
set_option maxRecDepth 100000 in
theorem sr_0_2 : x_sr 0 2 = 24 := by decide +kernel
set_option maxRecDepth 100000 in
theorem sr_0_3 : x_sr 0 3 = 75 := by decide +kernel
set_option maxRecDepth 100000 in
theorem sr_0_4 : x_sr 0 4 = 80 := by decide +kernel
set_option maxRecDepth 100000 in
theorem sr_0_5 : x_sr 0 5 = 86 := by decide +kernel
set_option maxRecDepth 100000 in
theorem sr_0_6 : x_sr 0 6 = 93 := by decide +kernel
set_option maxRecDepth 100000 in
theorem sr_2_0 : x_sr 2 0 = 3 := by decide +kernel
set_option maxRecDepth 100000 in
theorem sr_2_1 : x_sr 2 1 = 4 := by decide +kernel
set_option maxRecDepth 100000 in
theorem sr_2_2 : x_sr 2 2 = 5 := by decide +kernel
set_option maxRecDepth 100000 in
theorem sr_2_3 : x_sr 2 3 = 6 := by decide +kernel
set_option maxRecDepth 100000 in
theorem sr_2_4 : x_sr 2 4 = 7 := by decide +kernel
set_option maxRecDepth 100000 in
theorem sr_2_5 : x_sr 2 5 = 8 := by decide +kernel
set_option maxRecDepth 100000 in
theorem sr_2_6 : x_sr 2 6 = 9 := by decide +kernel
set_option maxRecDepth 100000 in
theorem sr_2_7 : x_sr 2 7 = 10 := by decide +kernel
set_option maxRecDepth 100000 in
theorem sr_2_8 : x_sr 2 8 = 11 := by decide +kernel
set_option maxRecDepth 100000 in
theorem sr_2_9 : x_sr 2 9 = 12 := by decide +kernel
set_option maxRecDepth 100000 in
theorem sr_2_10 : x_sr 2 10 = 13 := by decide +kernel
set_option maxRecDepth 100000 in
theorem sr_2_11 : x_sr 2 11 = 14 := by decide +kernel
set_option maxRecDepth 100000 in
theorem sr_2_12 : x_sr 2 12 = 15 := by decide +kernel
set_option maxRecDepth 100000 in
theorem sr_2_13 : x_sr 2 13 = 17 := by decide +kernel
set_option maxRecDepth 100000 in
theorem sr_2_14 : x_sr 2 14 = 19 := by decide +kernel
set_option maxRecDepth 100000 in
theorem sr_2_15 : x_sr 2 15 = 21 := by decide +kernel
set_option maxRecDepth 100000 in
theorem sr_21_0 : x_sr 21 0 = 22 := by decide +kernel
set_option maxRecDepth 100000 in
theorem sr_22_0 : x_sr 22 0 = 23 := by decide +kernel
set_option maxRecDepth 100000 in
theorem sr_24_0 : x_sr 24 0 = 25 := by decide +kernel
set_option maxRecDepth 100000 in
theorem sr_24_1 : x_sr 24 1 = 26 := by decide +kernel
set_option maxRecDepth 100000 in
theorem sr_75_0 : x_sr 75 0 = 76 := by decide +kernel
set_option maxRecDepth 100000 in
theorem sr_75_1 : x_sr 75 1 = 77 := by decide +kernel
set_option maxRecDepth 100000 in
theorem sr_75_2 : x_sr 75 2 = 78 := by decide +kernel
set_option maxRecDepth 100000 in
theorem sr_80_0 : x_sr 80 0 = 81 := by decide +kernel
set_option maxRecDepth 100000 in
theorem sr_80_1 : x_sr 80 1 = 82 := by decide +kernel
set_option maxRecDepth 100000 in
theorem sr_80_2 : x_sr 80 2 = 83 := by decide +kernel
set_option maxRecDepth 100000 in
theorem sr_80_3 : x_sr 80 3 = 84 := by decide +kernel
set_option maxRecDepth 100000 in
theorem sr_80_4 : x_sr 80 4 = 85 := by decide +kernel
set_option maxRecDepth 100000 in
theorem sr_86_0 : x_sr 86 0 = 87 := by decide +kernel
set_option maxRecDepth 100000 in
theorem sr_86_1 : x_sr 86 1 = 88 := by decide +kernel
set_option maxRecDepth 100000 in
theorem sr_86_2 : x_sr 86 2 = 89 := by decide +kernel
set_option maxRecDepth 100000 in
theorem sr_86_3 : x_sr 86 3 = 90 := by decide +kernel
set_option maxRecDepth 100000 in
theorem sr_86_4 : x_sr 86 4 = 91 := by decide +kernel
set_option maxRecDepth 100000 in
theorem sr_86_5 : x_sr 86 5 = 92 := by decide +kernel
set_option maxRecDepth 100000 in
theorem sr_93_0 : x_sr 93 0 = 94 := by decide +kernel
set_option maxRecDepth 100000 in
theorem sr_97_1 : x_sr 97 1 = 98 := by decide +kernel
set_option maxRecDepth 100000 in
theorem sr_97_2 : x_sr 97 2 = 99 := by decide +kernel
set_option maxRecDepth 100000 in
theorem sr_97_3 : x_sr 97 3 = 100 := by decide +kernel
set_option maxRecDepth 100000 in
theorem sr_97_4 : x_sr 97 4 = 101 := by decide +kernel
set_option maxRecDepth 100000 in
theorem sr_97_5 : x_sr 97 5 = 102 := by decide +kernel
set_option maxRecDepth 100000 in
theorem sr_97_6 : x_sr 97 6 = 103 := by decide +kernel
set_option maxRecDepth 100000 in
theorem sr_97_7 : x_sr 97 7 = 104 := by decide +kernel
set_option maxRecDepth 100000 in
theorem sr_97_8 : x_sr 97 8 = 105 := by decide +kernel
set_option maxRecDepth 100000 in
theorem sr_97_11 : x_sr 97 11 = 106 := by decide +kernel
set_option maxRecDepth 100000 in
theorem sr_97_12 : x_sr 97 12 = 107 := by decide +kernel
set_option maxRecDepth 100000 in
theorem sr_97_14 : x_sr 97 14 = 108 := by decide +kernel
set_option maxRecDepth 100000 in
theorem sr_97_15 : x_sr 97 15 = 109 := by decide +kernel
set_option maxRecDepth 100000 in
theorem sr_97_16 : x_sr 97 16 = 110 := by decide +kernel
set_option maxRecDepth 100000 in
theorem sr_97_17 : x_sr 97 17 = 111 := by decide +kernel
set_option maxRecDepth 100000 in
theorem sr_97_18 : x_sr 97 18 = 112 := by decide +kernel
set_option maxRecDepth 100000 in
theorem sr_97_19 : x_sr 97 19 = 113 := by decide +kernel
set_option maxRecDepth 100000 in
theorem sr_97_20 : x_sr 97 20 = 114 := by decide +kernel
set_option maxRecDepth 100000 in
theorem sr_97_21 : x_sr 97 21 = 115 := by decide +kernel
set_option maxRecDepth 100000 in
theorem sr_97_22 : x_sr 97 22 = 116 := by decide +kernel
set_option maxRecDepth 100000 in
theorem sr_97_23 : x_sr 97 23 = 117 := by decide +kernel
set_option maxRecDepth 100000 in
theorem sr_97_24 : x_sr 97 24 = 118 := by decide +kernel
set_option maxRecDepth 100000 in
theorem sr_97_25 : x_sr 97 25 = 119 := by decide +kernel
set_option maxRecDepth 100000 in
theorem sr_97_26 : x_sr 97 26 = 120 := by decide +kernel
set_option maxRecDepth 100000 in
theorem sr_97_28 : x_sr 97 28 = 121 := by decide +kernel
set_option maxRecDepth 100000 in
theorem sr_97_29 : x_sr 97 29 = 122 := by decide +kernel
set_option maxRecDepth 100000 in
theorem srk_Machine_0 {o : Nat} (h : x_kd o = 4) : x_kd (x_sr o 0) = 20 := by
  have q : ∀ o, o < xNW → x_kd o = 4 → x_kd (x_sr o 0) = 20 := by decide +kernel
  exact q o (x_kd_lt (by rw [h]; decide)) h
set_option maxRecDepth 100000 in
theorem srk_Machine_1 {o : Nat} (h : x_kd o = 4) : x_kd (x_sr o 1) = 22 := by
  have q : ∀ o, o < xNW → x_kd o = 4 → x_kd (x_sr o 1) = 22 := by decide +kernel
  exact q o (x_kd_lt (by rw [h]; decide)) h
set_option maxRecDepth 100000 in
theorem srk_Row_0 {o : Nat} (h : x_kd o = 1) : x_kd (x_sr o 0) = 21 := by
  have q : ∀ o, o < xNW → x_kd o = 1 → x_kd (x_sr o 0) = 21 := by decide +kernel
  exact q o (x_kd_lt (by rw [h]; decide)) h
set_option maxRecDepth 100000 in
theorem fl_D_9 : Cond.fieldLink R_D 9 R_D (F_D 0).2.1 (F_D 0).2.2.1 ∈ x_T := xmem2 22 rfl rfl
set_option maxRecDepth 100000 in
theorem fl_D_16 : Cond.fieldLink R_D 16 R_D (F_D 1).2.1 (F_D 1).2.2.1 ∈ x_T := xmem2 23 rfl rfl
set_option maxRecDepth 100000 in
theorem fl_D_23 : Cond.fieldLink R_D 23 R_D (F_D 2).2.1 (F_D 2).2.2.1 ∈ x_T := xmem2 24 rfl rfl
set_option maxRecDepth 100000 in
theorem fl_D_30 : Cond.fieldLink R_D 30 R_D (F_D 3).2.1 (F_D 3).2.2.1 ∈ x_T := xmem2 25 rfl rfl
set_option maxRecDepth 100000 in
theorem fl_D_37 : Cond.fieldLink R_D 37 R_D (F_D 4).2.1 (F_D 4).2.2.1 ∈ x_T := xmem2 26 rfl rfl
set_option maxRecDepth 100000 in
theorem fl_D_44 : Cond.fieldLink R_D 44 R_D (F_D 5).2.1 (F_D 5).2.2.1 ∈ x_T := xmem2 27 rfl rfl
set_option maxRecDepth 100000 in
theorem fl_D_51 : Cond.fieldLink R_D 51 R_D (F_D 6).2.1 (F_D 6).2.2.1 ∈ x_T := xmem2 28 rfl rfl
set_option maxRecDepth 100000 in
theorem fl_Comparison_11 : Cond.fieldLink R_Comparison 11 R_Comparison (F_Comparison 0).2.1 (F_Comparison 0).2.2.1 ∈ x_T := xmem1 219 rfl rfl
set_option maxRecDepth 100000 in
theorem fl_Comparison_15 : Cond.fieldLink R_Comparison 15 R_Comparison (F_Comparison 1).2.1 (F_Comparison 1).2.2.1 ∈ x_T := xmem1 220 rfl rfl
set_option maxRecDepth 100000 in
theorem fl_Comparison_18 : Cond.fieldLink R_Comparison 18 R_Comparison (F_Comparison 2).2.1 (F_Comparison 2).2.2.1 ∈ x_T := xmem1 221 rfl rfl
set_option maxRecDepth 100000 in
theorem fl_Comparison_21 : Cond.fieldLink R_Comparison 21 R_Comparison (F_Comparison 3).2.1 (F_Comparison 3).2.2.1 ∈ x_T := xmem1 222 rfl rfl
set_option maxRecDepth 100000 in
theorem fl_Comparison_24 : Cond.fieldLink R_Comparison 24 R_Comparison (F_Comparison 4).2.1 (F_Comparison 4).2.2.1 ∈ x_T := xmem1 223 rfl rfl
set_option maxRecDepth 100000 in
theorem fl_Comparison_27 : Cond.fieldLink R_Comparison 27 R_Comparison (F_Comparison 5).2.1 (F_Comparison 5).2.2.1 ∈ x_T := xmem1 224 rfl rfl
set_option maxRecDepth 100000 in
theorem fl_Comparison_30 : Cond.fieldLink R_Comparison 30 R_Comparison (F_Comparison 6).2.1 (F_Comparison 6).2.2.1 ∈ x_T := xmem1 225 rfl rfl
set_option maxRecDepth 100000 in
theorem fl_Comparison_34 : Cond.fieldLink R_Comparison 34 R_Comparison (F_Comparison 7).2.1 (F_Comparison 7).2.2.1 ∈ x_T := xmem1 226 rfl rfl
set_option maxRecDepth 100000 in
theorem fl_Explorer_11 : Cond.fieldLink R_Explorer 11 R_Explorer (F_Explorer 0).2.1 (F_Explorer 0).2.2.1 ∈ x_T := xmem1 157 rfl rfl
set_option maxRecDepth 100000 in
theorem fl_Explorer_17 : Cond.fieldLink R_Explorer 17 R_Explorer (F_Explorer 1).2.1 (F_Explorer 1).2.2.1 ∈ x_T := xmem1 158 rfl rfl
set_option maxRecDepth 100000 in
theorem fl_Gathering_12 : Cond.fieldLink R_Gathering 12 R_Gathering (F_Gathering 0).2.1 (F_Gathering 0).2.2.1 ∈ x_T := xmem1 56 rfl rfl
set_option maxRecDepth 100000 in
theorem fl_Gathering_18 : Cond.fieldLink R_Gathering 18 R_Gathering (F_Gathering 1).2.1 (F_Gathering 1).2.2.1 ∈ x_T := xmem1 57 rfl rfl
set_option maxRecDepth 100000 in
theorem fl_Gathering_22 : Cond.fieldLink R_Gathering 22 R_Gathering (F_Gathering 2).2.1 (F_Gathering 2).2.2.1 ∈ x_T := xmem1 58 rfl rfl
set_option maxRecDepth 100000 in
theorem fl_Gathering_25 : Cond.fieldLink R_Gathering 25 R_Gathering (F_Gathering 3).2.1 (F_Gathering 3).2.2.1 ∈ x_T := xmem1 59 rfl rfl
set_option maxRecDepth 100000 in
theorem fl_Machine_9 : Cond.fieldLink R_Machine 9 R_Machine (F_Machine 0).2.1 (F_Machine 0).2.2.1 ∈ x_T := xmem1 146 rfl rfl
set_option maxRecDepth 100000 in
theorem fl_Machine_15 : Cond.fieldLink R_Machine 15 R_Machine (F_Machine 1).2.1 (F_Machine 1).2.2.1 ∈ x_T := xmem1 147 rfl rfl
set_option maxRecDepth 100000 in
theorem fl_Machine_19 : Cond.fieldLink R_Machine 19 R_Machine (F_Machine 2).2.1 (F_Machine 2).2.2.1 ∈ x_T := xmem1 148 rfl rfl
set_option maxRecDepth 100000 in
theorem fl_Row_7 : Cond.fieldLink R_Row 7 R_Row (F_Row 0).2.1 (F_Row 0).2.2.1 ∈ x_T := xmem1 40 rfl rfl
set_option maxRecDepth 100000 in
theorem fl_Row_13 : Cond.fieldLink R_Row 13 R_Row (F_Row 1).2.1 (F_Row 1).2.2.1 ∈ x_T := xmem1 41 rfl rfl
set_option maxRecDepth 100000 in
theorem fl_Splitter_9 : Cond.fieldLink R_Splitter 9 R_Splitter (F_Splitter 0).2.1 (F_Splitter 0).2.2.1 ∈ x_T := xmem1 197 rfl rfl
set_option maxRecDepth 100000 in
theorem fl_Splitter_15 : Cond.fieldLink R_Splitter 15 R_Splitter (F_Splitter 1).2.1 (F_Splitter 1).2.2.1 ∈ x_T := xmem1 198 rfl rfl
set_option maxRecDepth 100000 in
theorem fl_Splitter_18 : Cond.fieldLink R_Splitter 18 R_Splitter (F_Splitter 2).2.1 (F_Splitter 2).2.2.1 ∈ x_T := xmem1 199 rfl rfl
set_option maxRecDepth 100000 in
theorem fl_Splitter_21 : Cond.fieldLink R_Splitter 21 R_Splitter (F_Splitter 3).2.1 (F_Splitter 3).2.2.1 ∈ x_T := xmem1 200 rfl rfl
set_option maxRecDepth 100000 in
theorem fl_Splitter_24 : Cond.fieldLink R_Splitter 24 R_Splitter (F_Splitter 4).2.1 (F_Splitter 4).2.2.1 ∈ x_T := xmem1 201 rfl rfl
set_option maxRecDepth 100000 in
theorem fl_Terms_11 : Cond.fieldLink R_Terms 11 R_Terms (F_Terms 0).2.1 (F_Terms 0).2.2.1 ∈ x_T := xmem1 72 rfl rfl
set_option maxRecDepth 100000 in
theorem fl_Terms_15 : Cond.fieldLink R_Terms 15 R_Terms (F_Terms 1).2.1 (F_Terms 1).2.2.1 ∈ x_T := xmem1 73 rfl rfl
set_option maxRecDepth 100000 in
theorem fl_Terms_18 : Cond.fieldLink R_Terms 18 R_Terms (F_Terms 2).2.1 (F_Terms 2).2.2.1 ∈ x_T := xmem1 74 rfl rfl
set_option maxRecDepth 100000 in
theorem fl_Terms_21 : Cond.fieldLink R_Terms 21 R_Terms (F_Terms 3).2.1 (F_Terms 3).2.2.1 ∈ x_T := xmem1 75 rfl rfl
set_option maxRecDepth 100000 in
theorem fl_Terms_24 : Cond.fieldLink R_Terms 24 R_Terms (F_Terms 4).2.1 (F_Terms 4).2.2.1 ∈ x_T := xmem1 76 rfl rfl
set_option maxRecDepth 100000 in
theorem fl_Terms_27 : Cond.fieldLink R_Terms 27 R_Terms (F_Terms 5).2.1 (F_Terms 5).2.2.1 ∈ x_T := xmem1 77 rfl rfl
set_option maxRecDepth 100000 in
theorem fl_Terms_30 : Cond.fieldLink R_Terms 30 R_Terms (F_Terms 6).2.1 (F_Terms 6).2.2.1 ∈ x_T := xmem1 78 rfl rfl
set_option maxRecDepth 100000 in
theorem fl_Terms_33 : Cond.fieldLink R_Terms 33 R_Terms (F_Terms 7).2.1 (F_Terms 7).2.2.1 ∈ x_T := xmem1 79 rfl rfl
set_option maxRecDepth 100000 in
theorem fl_Terms_36 : Cond.fieldLink R_Terms 36 R_Terms (F_Terms 8).2.1 (F_Terms 8).2.2.1 ∈ x_T := xmem1 80 rfl rfl
set_option maxRecDepth 100000 in
theorem fl_Terms_39 : Cond.fieldLink R_Terms 39 R_Terms (F_Terms 9).2.1 (F_Terms 9).2.2.1 ∈ x_T := xmem1 81 rfl rfl
set_option maxRecDepth 100000 in
theorem fl_Terms_42 : Cond.fieldLink R_Terms 42 R_Terms (F_Terms 10).2.1 (F_Terms 10).2.2.1 ∈ x_T := xmem1 82 rfl rfl
set_option maxRecDepth 100000 in
theorem fl_Terms_45 : Cond.fieldLink R_Terms 45 R_Terms (F_Terms 11).2.1 (F_Terms 11).2.2.1 ∈ x_T := xmem1 83 rfl rfl
set_option maxRecDepth 100000 in
theorem fl_Terms_51 : Cond.fieldLink R_Terms 51 R_Terms (F_Terms 12).2.1 (F_Terms 12).2.2.1 ∈ x_T := xmem1 84 rfl rfl
set_option maxRecDepth 100000 in
theorem fl_Terms_55 : Cond.fieldLink R_Terms 55 R_Terms (F_Terms 13).2.1 (F_Terms 13).2.2.1 ∈ x_T := xmem1 85 rfl rfl
set_option maxRecDepth 100000 in
theorem fl_Terms_58 : Cond.fieldLink R_Terms 58 R_Terms (F_Terms 14).2.1 (F_Terms 14).2.2.1 ∈ x_T := xmem1 86 rfl rfl
set_option maxRecDepth 100000 in
theorem fl_Terms_64 : Cond.fieldLink R_Terms 64 R_Terms (F_Terms 15).2.1 (F_Terms 15).2.2.1 ∈ x_T := xmem1 87 rfl rfl
set_option maxRecDepth 100000 in
theorem fl_Terms_68 : Cond.fieldLink R_Terms 68 R_Terms (F_Terms 16).2.1 (F_Terms 16).2.2.1 ∈ x_T := xmem1 88 rfl rfl
set_option maxRecDepth 100000 in
theorem fl_Terms_72 : Cond.fieldLink R_Terms 72 R_Terms (F_Terms 17).2.1 (F_Terms 17).2.2.1 ∈ x_T := xmem1 89 rfl rfl
set_option maxRecDepth 100000 in
theorem fl_Terms_75 : Cond.fieldLink R_Terms 75 R_Terms (F_Terms 18).2.1 (F_Terms 18).2.2.1 ∈ x_T := xmem1 90 rfl rfl
set_option maxRecDepth 100000 in
theorem fl_Terms_78 : Cond.fieldLink R_Terms 78 R_Terms (F_Terms 19).2.1 (F_Terms 19).2.2.1 ∈ x_T := xmem1 91 rfl rfl
set_option maxRecDepth 100000 in
theorem fl_WordCheck_9 : Cond.fieldLink R_WordCheck 9 R_WordCheck (F_WordCheck 0).2.1 (F_WordCheck 0).2.2.1 ∈ x_T := xmem1 172 rfl rfl
set_option maxRecDepth 100000 in
theorem fl_WordCheck_15 : Cond.fieldLink R_WordCheck 15 R_WordCheck (F_WordCheck 1).2.1 (F_WordCheck 1).2.2.1 ∈ x_T := xmem1 173 rfl rfl
set_option maxRecDepth 100000 in
theorem fl_WordCheck_21 : Cond.fieldLink R_WordCheck 21 R_WordCheck (F_WordCheck 2).2.1 (F_WordCheck 2).2.2.1 ∈ x_T := xmem1 174 rfl rfl
set_option maxRecDepth 100000 in
theorem fl_WordCheck_25 : Cond.fieldLink R_WordCheck 25 R_WordCheck (F_WordCheck 3).2.1 (F_WordCheck 3).2.2.1 ∈ x_T := xmem1 175 rfl rfl
set_option maxRecDepth 100000 in
theorem fl_WordCheck_29 : Cond.fieldLink R_WordCheck 29 R_WordCheck (F_WordCheck 4).2.1 (F_WordCheck 4).2.2.1 ∈ x_T := xmem1 176 rfl rfl
set_option maxRecDepth 100000 in
theorem fl_WordCheck_32 : Cond.fieldLink R_WordCheck 32 R_WordCheck (F_WordCheck 5).2.1 (F_WordCheck 5).2.2.1 ∈ x_T := xmem1 177 rfl rfl
set_option maxRecDepth 100000 in
theorem fl_WordCounts_9 : Cond.fieldLink R_WordCounts 9 R_WordCounts (F_WordCounts 0).2.1 (F_WordCounts 0).2.2.1 ∈ x_T := xmem2 10 rfl rfl
set_option maxRecDepth 100000 in
theorem fl_WordCounts_15 : Cond.fieldLink R_WordCounts 15 R_WordCounts (F_WordCounts 1).2.1 (F_WordCounts 1).2.2.1 ∈ x_T := xmem2 11 rfl rfl
set_option maxRecDepth 100000 in
theorem fl_WordCounts_19 : Cond.fieldLink R_WordCounts 19 R_WordCounts (F_WordCounts 2).2.1 (F_WordCounts 2).2.2.1 ∈ x_T := xmem2 12 rfl rfl
set_option maxRecDepth 100000 in
theorem fl_Mo_7 : Cond.fieldLink R_Mo 7 R_Mo (F_Mo 1).2.1 (F_Mo 1).2.2.1 ∈ x_T := xmem4 136 rfl rfl
set_option maxRecDepth 100000 in
theorem fl_Mo_13 : Cond.fieldLink R_Mo 13 R_Mo (F_Mo 2).2.1 (F_Mo 2).2.2.1 ∈ x_T := xmem4 137 rfl rfl
set_option maxRecDepth 100000 in
theorem fl_Mo_17 : Cond.fieldLink R_Mo 17 R_Mo (F_Mo 3).2.1 (F_Mo 3).2.2.1 ∈ x_T := xmem4 138 rfl rfl
set_option maxRecDepth 100000 in
theorem fl_Mo_20 : Cond.fieldLink R_Mo 20 R_Mo (F_Mo 4).2.1 (F_Mo 4).2.2.1 ∈ x_T := xmem4 139 rfl rfl
set_option maxRecDepth 100000 in
theorem fl_Mo_23 : Cond.fieldLink R_Mo 23 R_Mo (F_Mo 5).2.1 (F_Mo 5).2.2.1 ∈ x_T := xmem4 140 rfl rfl
set_option maxRecDepth 100000 in
theorem fl_Mo_26 : Cond.fieldLink R_Mo 26 R_Mo (F_Mo 6).2.1 (F_Mo 6).2.2.1 ∈ x_T := xmem4 141 rfl rfl
set_option maxRecDepth 100000 in
theorem fl_Mo_29 : Cond.fieldLink R_Mo 29 R_Mo (F_Mo 7).2.1 (F_Mo 7).2.2.1 ∈ x_T := xmem4 142 rfl rfl
set_option maxRecDepth 100000 in
theorem fl_Mo_32 : Cond.fieldLink R_Mo 32 R_Mo (F_Mo 8).2.1 (F_Mo 8).2.2.1 ∈ x_T := xmem4 143 rfl rfl
set_option maxRecDepth 100000 in
theorem fl_Mo_36 : Cond.fieldLink R_Mo 36 R_Mo (F_Mo 11).2.1 (F_Mo 11).2.2.1 ∈ x_T := xmem4 146 rfl rfl
set_option maxRecDepth 100000 in
theorem fl_Mo_39 : Cond.fieldLink R_Mo 39 R_Mo (F_Mo 12).2.1 (F_Mo 12).2.2.1 ∈ x_T := xmem4 147 rfl rfl
set_option maxRecDepth 100000 in
theorem fl_Mo_43 : Cond.fieldLink R_Mo 43 R_Mo (F_Mo 14).2.1 (F_Mo 14).2.2.1 ∈ x_T := xmem4 149 rfl rfl
set_option maxRecDepth 100000 in
theorem fl_Mo_46 : Cond.fieldLink R_Mo 46 R_Mo (F_Mo 15).2.1 (F_Mo 15).2.2.1 ∈ x_T := xmem4 150 rfl rfl
set_option maxRecDepth 100000 in
theorem fl_Mo_49 : Cond.fieldLink R_Mo 49 R_Mo (F_Mo 16).2.1 (F_Mo 16).2.2.1 ∈ x_T := xmem4 151 rfl rfl
set_option maxRecDepth 100000 in
theorem fl_Mo_52 : Cond.fieldLink R_Mo 52 R_Mo (F_Mo 17).2.1 (F_Mo 17).2.2.1 ∈ x_T := xmem4 152 rfl rfl
set_option maxRecDepth 100000 in
theorem fl_Mo_55 : Cond.fieldLink R_Mo 55 R_Mo (F_Mo 18).2.1 (F_Mo 18).2.2.1 ∈ x_T := xmem4 153 rfl rfl
set_option maxRecDepth 100000 in
theorem fl_Mo_58 : Cond.fieldLink R_Mo 58 R_Mo (F_Mo 19).2.1 (F_Mo 19).2.2.1 ∈ x_T := xmem4 154 rfl rfl
set_option maxRecDepth 100000 in
theorem fl_Mo_61 : Cond.fieldLink R_Mo 61 R_Mo (F_Mo 20).2.1 (F_Mo 20).2.2.1 ∈ x_T := xmem4 155 rfl rfl
set_option maxRecDepth 100000 in
theorem fl_Mo_64 : Cond.fieldLink R_Mo 64 R_Mo (F_Mo 21).2.1 (F_Mo 21).2.2.1 ∈ x_T := xmem4 156 rfl rfl
set_option maxRecDepth 100000 in
theorem fl_Mo_67 : Cond.fieldLink R_Mo 67 R_Mo (F_Mo 22).2.1 (F_Mo 22).2.2.1 ∈ x_T := xmem4 157 rfl rfl
set_option maxRecDepth 100000 in
theorem fl_Mo_71 : Cond.fieldLink R_Mo 71 R_Mo (F_Mo 23).2.1 (F_Mo 23).2.2.1 ∈ x_T := xmem4 158 rfl rfl
set_option maxRecDepth 100000 in
theorem fl_Mo_74 : Cond.fieldLink R_Mo 74 R_Mo (F_Mo 24).2.1 (F_Mo 24).2.2.1 ∈ x_T := xmem4 159 rfl rfl
set_option maxRecDepth 100000 in
theorem fl_Mo_77 : Cond.fieldLink R_Mo 77 R_Mo (F_Mo 25).2.1 (F_Mo 25).2.2.1 ∈ x_T := xmem4 160 rfl rfl
set_option maxRecDepth 100000 in
theorem fl_Mo_80 : Cond.fieldLink R_Mo 80 R_Mo (F_Mo 26).2.1 (F_Mo 26).2.2.1 ∈ x_T := xmem4 161 rfl rfl
set_option maxRecDepth 100000 in
theorem fl_Mo_83 : Cond.fieldLink R_Mo 83 R_Mo (F_Mo 27).2.1 (F_Mo 27).2.2.1 ∈ x_T := xmem4 162 rfl rfl
set_option maxRecDepth 100000 in
theorem fl_Mo_87 : Cond.fieldLink R_Mo 87 R_Mo (F_Mo 28).2.1 (F_Mo 28).2.2.1 ∈ x_T := xmem4 163 rfl rfl
set_option maxRecDepth 100000 in
theorem fl_Mo_90 : Cond.fieldLink R_Mo 90 R_Mo (F_Mo 29).2.1 (F_Mo 29).2.2.1 ∈ x_T := xmem4 164 rfl rfl
set_option maxRecDepth 100000 in
theorem fl_Mo_93 : Cond.fieldLink R_Mo 93 R_Mo (F_Mo 0).2.1 (F_Mo 0).2.2.1 ∈ x_T := xmem4 135 rfl rfl
set_option maxRecDepth 100000 in
theorem fl_Mo_107 : Cond.fieldLink R_Mo 107 R_Mo (F_Mo 13).2.1 (F_Mo 13).2.2.1 ∈ x_T := xmem4 148 rfl rfl
set_option maxRecDepth 100000 in
theorem fl_Mo_118 : Cond.fieldLink R_Mo 118 R_Mo (F_Mo 10).2.1 (F_Mo 10).2.2.1 ∈ x_T := xmem4 145 rfl rfl
set_option maxRecDepth 100000 in
theorem fl_Mo_128 : Cond.fieldLink R_Mo 128 R_Mo (F_Mo 9).2.1 (F_Mo 9).2.2.1 ∈ x_T := xmem4 144 rfl rfl
set_option maxRecDepth 100000 in
theorem cs_D_129 : Jvm.Cond.constantLong R_D 129 (-1 : Int64) ∈ x_T := xmem4 73 rfl rfl
set_option maxRecDepth 100000 in
theorem cs_Terms_90 : Jvm.Cond.constant R_Terms 90 (1000000 : Int32) ∈ x_T := xmem2 219 rfl rfl
set_option maxRecDepth 100000 in
theorem cs_Terms_150 : Jvm.Cond.constant R_Terms 150 (-1640531535 : Int32) ∈ x_T := xmem2 203 rfl rfl
set_option maxRecDepth 100000 in
theorem cs_WordCheck_53 : Jvm.Cond.constant R_WordCheck 53 (1000000 : Int32) ∈ x_T := xmem3 143 rfl rfl
set_option maxRecDepth 100000 in
theorem cs_WordCounts_40 : Jvm.Cond.constantLong R_WordCounts 40 (-1 : Int64) ∈ x_T := xmem4 111 rfl rfl
set_option maxRecDepth 100000 in
theorem cs_WordCounts_42 : Jvm.Cond.constantLong R_WordCounts 42 (68719476736 : Int64) ∈ x_T := xmem4 112 rfl rfl
set_option maxRecDepth 100000 in
theorem cs_Mo_194 : Jvm.Cond.constantLong R_Mo 194 (-1 : Int64) ∈ x_T := xmem5 124 rfl rfl
set_option maxRecDepth 100000 in
theorem cs_Mo_199 : Jvm.Cond.constantLong R_Mo 199 (4 : Int64) ∈ x_T := xmem5 137 rfl rfl
set_option maxRecDepth 100000 in
theorem in_D : Cond.initialized R_D ∈ x_T := xmem1 1 rfl rfl
set_option maxRecDepth 100000 in
theorem in_Comparison : Cond.initialized R_Comparison ∈ x_T := xmem1 10 rfl rfl
set_option maxRecDepth 100000 in
theorem in_Explorer : Cond.initialized R_Explorer ∈ x_T := xmem1 6 rfl rfl
set_option maxRecDepth 100000 in
theorem in_Gathering : Cond.initialized R_Gathering ∈ x_T := xmem1 4 rfl rfl
set_option maxRecDepth 100000 in
theorem in_Machine : Cond.initialized R_Machine ∈ x_T := xmem1 7 rfl rfl
set_option maxRecDepth 100000 in
theorem in_Row : Cond.initialized R_Row ∈ x_T := xmem1 3 rfl rfl
set_option maxRecDepth 100000 in
theorem in_Splitter : Cond.initialized R_Splitter ∈ x_T := xmem1 9 rfl rfl
set_option maxRecDepth 100000 in
theorem in_Terms : Cond.initialized R_Terms ∈ x_T := xmem1 2 rfl rfl
set_option maxRecDepth 100000 in
theorem in_WordCheck : Cond.initialized R_WordCheck ∈ x_T := xmem1 8 rfl rfl
set_option maxRecDepth 100000 in
theorem in_WordCounts : Cond.initialized R_WordCounts ∈ x_T := xmem1 11 rfl rfl
set_option maxRecDepth 100000 in
theorem in_Mo : Cond.initialized R_Mo ∈ x_T := xmem1 12 rfl rfl
set_option maxRecDepth 100000 in
theorem in_Arr : Cond.initialized R_Arr ∈ x_T := xmem1 5 rfl rfl
abbrev b_D_checkSlot : ByteArray := prog_1_method_16_code
abbrev y_D_checkSlot : MethodName := ⟨R_D, "checkSlot", "(I)V"⟩
set_option maxRecDepth 100000 in
theorem cd_D_checkSlot : Cond.code y_D_checkSlot b_D_checkSlot 1 none ∈ x_T := xmem2 67 rfl rfl
set_option maxRecDepth 100000 in
theorem st_D_checkSlot : Cond.static y_D_checkSlot ∈ x_T := xmem2 66 rfl rfl
set_option maxRecDepth 100000 in
theorem hs_D_checkSlot : y_D_checkSlot.cls ≠ "java/lang/invoke/MethodHandle" ∧ y_D_checkSlot.cls ≠ "java/lang/invoke/VarHandle" ∧ (parseMethodDescriptor y_D_checkSlot.desc).map (fun d => d.parameters.length) = some 1 := by decide +kernel
abbrev b_D_checkRange : ByteArray := prog_1_method_17_code
abbrev y_D_checkRange : MethodName := ⟨R_D, "checkRange", "(II)V"⟩
set_option maxRecDepth 100000 in
theorem cd_D_checkRange : Cond.code y_D_checkRange b_D_checkRange 2 none ∈ x_T := xmem2 132 rfl rfl
set_option maxRecDepth 100000 in
theorem st_D_checkRange : Cond.static y_D_checkRange ∈ x_T := xmem2 131 rfl rfl
set_option maxRecDepth 100000 in
theorem hs_D_checkRange : y_D_checkRange.cls ≠ "java/lang/invoke/MethodHandle" ∧ y_D_checkRange.cls ≠ "java/lang/invoke/VarHandle" ∧ (parseMethodDescriptor y_D_checkRange.desc).map (fun d => d.parameters.length) = some 2 := by decide +kernel
abbrev b_Terms_sizeOf : ByteArray := prog_8_method_3_code
abbrev y_Terms_sizeOf : MethodName := ⟨R_Terms, "sizeOf", "(I)I"⟩
set_option maxRecDepth 100000 in
theorem cd_Terms_sizeOf : Cond.code y_Terms_sizeOf b_Terms_sizeOf 2 (some .int) ∈ x_T := xmem2 155 rfl rfl
set_option maxRecDepth 100000 in
theorem im_Terms_sizeOf : Cond.instanceMethod y_Terms_sizeOf ∈ x_T := xmem2 153 rfl rfl
set_option maxRecDepth 100000 in
theorem sl_Terms_sizeOf : Cond.selects R_Terms y_Terms_sizeOf y_Terms_sizeOf ∈ x_T := xmem2 154 rfl rfl
set_option maxRecDepth 100000 in
theorem hv_Terms_sizeOf : y_Terms_sizeOf.cls = R_Terms ∧ y_Terms_sizeOf.cls ≠ "java/lang/invoke/MethodHandle" ∧ y_Terms_sizeOf.cls ≠ "java/lang/invoke/VarHandle" ∧ (parseMethodDescriptor y_Terms_sizeOf.desc).map (fun d => d.parameters.length) = some 1 := by decide +kernel
abbrev b_Machine_setCount : ByteArray := prog_5_method_5_code
abbrev y_Machine_setCount : MethodName := ⟨R_Machine, "setCount", "(I)V"⟩
set_option maxRecDepth 100000 in
theorem cd_Machine_setCount : Cond.code y_Machine_setCount b_Machine_setCount 2 none ∈ x_T := xmem2 163 rfl rfl
set_option maxRecDepth 100000 in
theorem im_Machine_setCount : Cond.instanceMethod y_Machine_setCount ∈ x_T := xmem2 161 rfl rfl
set_option maxRecDepth 100000 in
theorem sl_Machine_setCount : Cond.selects R_Machine y_Machine_setCount y_Machine_setCount ∈ x_T := xmem2 162 rfl rfl
set_option maxRecDepth 100000 in
theorem hv_Machine_setCount : y_Machine_setCount.cls = R_Machine ∧ y_Machine_setCount.cls ≠ "java/lang/invoke/MethodHandle" ∧ y_Machine_setCount.cls ≠ "java/lang/invoke/VarHandle" ∧ (parseMethodDescriptor y_Machine_setCount.desc).map (fun d => d.parameters.length) = some 1 := by decide +kernel
abbrev b_Explorer_forget : ByteArray := prog_3_method_2_code
abbrev y_Explorer_forget : MethodName := ⟨R_Explorer, "forget", "(I)V"⟩
set_option maxRecDepth 100000 in
theorem cd_Explorer_forget : Cond.code y_Explorer_forget b_Explorer_forget 2 none ∈ x_T := xmem2 159 rfl rfl
set_option maxRecDepth 100000 in
theorem im_Explorer_forget : Cond.instanceMethod y_Explorer_forget ∈ x_T := xmem2 157 rfl rfl
set_option maxRecDepth 100000 in
theorem sl_Explorer_forget : Cond.selects R_Explorer y_Explorer_forget y_Explorer_forget ∈ x_T := xmem2 158 rfl rfl
set_option maxRecDepth 100000 in
theorem hv_Explorer_forget : y_Explorer_forget.cls = R_Explorer ∧ y_Explorer_forget.cls ≠ "java/lang/invoke/MethodHandle" ∧ y_Explorer_forget.cls ≠ "java/lang/invoke/VarHandle" ∧ (parseMethodDescriptor y_Explorer_forget.desc).map (fun d => d.parameters.length) = some 1 := by decide +kernel
abbrev b_D_put : ByteArray := prog_1_method_18_code
abbrev y_D_put : MethodName := ⟨R_D, "put", "(II)I"⟩
set_option maxRecDepth 100000 in
theorem cd_D_put : Cond.code y_D_put b_D_put 4 (some .int) ∈ x_T := xmem2 151 rfl rfl
set_option maxRecDepth 100000 in
theorem im_D_put : Cond.instanceMethod y_D_put ∈ x_T := xmem2 150 rfl rfl
set_option maxRecDepth 100000 in
theorem sl_D_put : Cond.selects R_D y_D_put y_D_put ∈ x_T := xmemS 1 rfl rfl
set_option maxRecDepth 100000 in
theorem hv_D_put : y_D_put.cls = R_D ∧ y_D_put.cls ≠ "java/lang/invoke/MethodHandle" ∧ y_D_put.cls ≠ "java/lang/invoke/VarHandle" ∧ (parseMethodDescriptor y_D_put.desc).map (fun d => d.parameters.length) = some 2 := by decide +kernel
abbrev b_D_letters : ByteArray := prog_1_method_2_code
abbrev y_D_letters : MethodName := ⟨R_D, "letters", "(II)I"⟩
set_option maxRecDepth 100000 in
theorem cd_D_letters : Cond.code y_D_letters b_D_letters 3 (some .int) ∈ x_T := xmem2 64 rfl rfl
set_option maxRecDepth 100000 in
theorem im_D_letters : Cond.instanceMethod y_D_letters ∈ x_T := xmem2 62 rfl rfl
set_option maxRecDepth 100000 in
theorem sl_D_letters : Cond.selects R_D y_D_letters y_D_letters ∈ x_T := xmem2 63 rfl rfl
set_option maxRecDepth 100000 in
theorem hv_D_letters : y_D_letters.cls = R_D ∧ y_D_letters.cls ≠ "java/lang/invoke/MethodHandle" ∧ y_D_letters.cls ≠ "java/lang/invoke/VarHandle" ∧ (parseMethodDescriptor y_D_letters.desc).map (fun d => d.parameters.length) = some 2 := by decide +kernel
abbrev b_Arr_fill : ByteArray := prog_21_method_103_code
abbrev y_Arr_fill : MethodName := ⟨R_Arr, "fill", "([II)V"⟩
set_option maxRecDepth 100000 in
theorem cd_Arr_fill : Cond.code y_Arr_fill b_Arr_fill 4 none ∈ x_T := xmem1 71 rfl rfl
set_option maxRecDepth 100000 in
theorem st_Arr_fill : Cond.static y_Arr_fill ∈ x_T := xmem1 70 rfl rfl
set_option maxRecDepth 100000 in
theorem hs_Arr_fill : y_Arr_fill.cls ≠ "java/lang/invoke/MethodHandle" ∧ y_Arr_fill.cls ≠ "java/lang/invoke/VarHandle" ∧ (parseMethodDescriptor y_Arr_fill.desc).map (fun d => d.parameters.length) = some 2 := by decide +kernel
abbrev b_Terms_markRow : ByteArray := prog_8_method_25_code
abbrev y_Terms_markRow : MethodName := ⟨R_Terms, "markRow", "([II)V"⟩
set_option maxRecDepth 100000 in
theorem cd_Terms_markRow : Cond.code y_Terms_markRow b_Terms_markRow 4 none ∈ x_T := xmem2 182 rfl rfl
set_option maxRecDepth 100000 in
theorem im_Terms_markRow : Cond.instanceMethod y_Terms_markRow ∈ x_T := xmem2 181 rfl rfl
set_option maxRecDepth 100000 in
theorem sl_Terms_markRow : Cond.selects R_Terms y_Terms_markRow y_Terms_markRow ∈ x_T := xmemS 2 rfl rfl
set_option maxRecDepth 100000 in
theorem hv_Terms_markRow : y_Terms_markRow.cls = R_Terms ∧ y_Terms_markRow.cls ≠ "java/lang/invoke/MethodHandle" ∧ y_Terms_markRow.cls ≠ "java/lang/invoke/VarHandle" ∧ (parseMethodDescriptor y_Terms_markRow.desc).map (fun d => d.parameters.length) = some 2 := by decide +kernel
abbrev b_Terms_kid : ByteArray := prog_8_method_6_code
abbrev y_Terms_kid : MethodName := ⟨R_Terms, "kid", "(II)I"⟩
set_option maxRecDepth 100000 in
theorem cd_Terms_kid : Cond.code y_Terms_kid b_Terms_kid 3 (some .int) ∈ x_T := xmem2 190 rfl rfl
set_option maxRecDepth 100000 in
theorem im_Terms_kid : Cond.instanceMethod y_Terms_kid ∈ x_T := xmem2 188 rfl rfl
set_option maxRecDepth 100000 in
theorem sl_Terms_kid : Cond.selects R_Terms y_Terms_kid y_Terms_kid ∈ x_T := xmem2 189 rfl rfl
set_option maxRecDepth 100000 in
theorem hv_Terms_kid : y_Terms_kid.cls = R_Terms ∧ y_Terms_kid.cls ≠ "java/lang/invoke/MethodHandle" ∧ y_Terms_kid.cls ≠ "java/lang/invoke/VarHandle" ∧ (parseMethodDescriptor y_Terms_kid.desc).map (fun d => d.parameters.length) = some 2 := by decide +kernel
abbrev b_Terms_markKids : ByteArray := prog_8_method_26_code
abbrev y_Terms_markKids : MethodName := ⟨R_Terms, "markKids", "()V"⟩
set_option maxRecDepth 100000 in
theorem cd_Terms_markKids : Cond.code y_Terms_markKids b_Terms_markKids 3 none ∈ x_T := xmem2 186 rfl rfl
set_option maxRecDepth 100000 in
theorem im_Terms_markKids : Cond.instanceMethod y_Terms_markKids ∈ x_T := xmem2 185 rfl rfl
set_option maxRecDepth 100000 in
theorem sl_Terms_markKids : Cond.selects R_Terms y_Terms_markKids y_Terms_markKids ∈ x_T := xmemS 3 rfl rfl
set_option maxRecDepth 100000 in
theorem hv_Terms_markKids : y_Terms_markKids.cls = R_Terms ∧ y_Terms_markKids.cls ≠ "java/lang/invoke/MethodHandle" ∧ y_Terms_markKids.cls ≠ "java/lang/invoke/VarHandle" ∧ (parseMethodDescriptor y_Terms_markKids.desc).map (fun d => d.parameters.length) = some 0 := by decide +kernel
abbrev b_Terms_numberMarked : ByteArray := prog_8_method_27_code
abbrev y_Terms_numberMarked : MethodName := ⟨R_Terms, "numberMarked", "()V"⟩
set_option maxRecDepth 100000 in
theorem cd_Terms_numberMarked : Cond.code y_Terms_numberMarked b_Terms_numberMarked 3 none ∈ x_T := xmem2 194 rfl rfl
set_option maxRecDepth 100000 in
theorem im_Terms_numberMarked : Cond.instanceMethod y_Terms_numberMarked ∈ x_T := xmem2 193 rfl rfl
set_option maxRecDepth 100000 in
theorem sl_Terms_numberMarked : Cond.selects R_Terms y_Terms_numberMarked y_Terms_numberMarked ∈ x_T := xmemS 4 rfl rfl
set_option maxRecDepth 100000 in
theorem hv_Terms_numberMarked : y_Terms_numberMarked.cls = R_Terms ∧ y_Terms_numberMarked.cls ≠ "java/lang/invoke/MethodHandle" ∧ y_Terms_numberMarked.cls ≠ "java/lang/invoke/VarHandle" ∧ (parseMethodDescriptor y_Terms_numberMarked.desc).map (fun d => d.parameters.length) = some 0 := by decide +kernel
abbrev b_Terms_move : ByteArray := prog_8_method_29_code
abbrev y_Terms_move : MethodName := ⟨R_Terms, "move", "(II)V"⟩
set_option maxRecDepth 100000 in
theorem cd_Terms_move : Cond.code y_Terms_move b_Terms_move 7 none ∈ x_T := xmem2 202 rfl rfl
set_option maxRecDepth 100000 in
theorem im_Terms_move : Cond.instanceMethod y_Terms_move ∈ x_T := xmem2 201 rfl rfl
set_option maxRecDepth 100000 in
theorem sl_Terms_move : Cond.selects R_Terms y_Terms_move y_Terms_move ∈ x_T := xmemS 6 rfl rfl
set_option maxRecDepth 100000 in
theorem hv_Terms_move : y_Terms_move.cls = R_Terms ∧ y_Terms_move.cls ≠ "java/lang/invoke/MethodHandle" ∧ y_Terms_move.cls ≠ "java/lang/invoke/VarHandle" ∧ (parseMethodDescriptor y_Terms_move.desc).map (fun d => d.parameters.length) = some 2 := by decide +kernel
abbrev b_Terms_moveMarked : ByteArray := prog_8_method_28_code
abbrev y_Terms_moveMarked : MethodName := ⟨R_Terms, "moveMarked", "()V"⟩
set_option maxRecDepth 100000 in
theorem cd_Terms_moveMarked : Cond.code y_Terms_moveMarked b_Terms_moveMarked 3 none ∈ x_T := xmem2 198 rfl rfl
set_option maxRecDepth 100000 in
theorem im_Terms_moveMarked : Cond.instanceMethod y_Terms_moveMarked ∈ x_T := xmem2 197 rfl rfl
set_option maxRecDepth 100000 in
theorem sl_Terms_moveMarked : Cond.selects R_Terms y_Terms_moveMarked y_Terms_moveMarked ∈ x_T := xmemS 5 rfl rfl
set_option maxRecDepth 100000 in
theorem hv_Terms_moveMarked : y_Terms_moveMarked.cls = R_Terms ∧ y_Terms_moveMarked.cls ≠ "java/lang/invoke/MethodHandle" ∧ y_Terms_moveMarked.cls ≠ "java/lang/invoke/VarHandle" ∧ (parseMethodDescriptor y_Terms_moveMarked.desc).map (fun d => d.parameters.length) = some 0 := by decide +kernel
abbrev b_Terms_renumber : ByteArray := prog_8_method_30_code
abbrev y_Terms_renumber : MethodName := ⟨R_Terms, "renumber", "([II)V"⟩
set_option maxRecDepth 100000 in
theorem cd_Terms_renumber : Cond.code y_Terms_renumber b_Terms_renumber 4 none ∈ x_T := xmem2 207 rfl rfl
set_option maxRecDepth 100000 in
theorem im_Terms_renumber : Cond.instanceMethod y_Terms_renumber ∈ x_T := xmem2 206 rfl rfl
set_option maxRecDepth 100000 in
theorem sl_Terms_renumber : Cond.selects R_Terms y_Terms_renumber y_Terms_renumber ∈ x_T := xmemS 7 rfl rfl
set_option maxRecDepth 100000 in
theorem hv_Terms_renumber : y_Terms_renumber.cls = R_Terms ∧ y_Terms_renumber.cls ≠ "java/lang/invoke/MethodHandle" ∧ y_Terms_renumber.cls ≠ "java/lang/invoke/VarHandle" ∧ (parseMethodDescriptor y_Terms_renumber.desc).map (fun d => d.parameters.length) = some 2 := by decide +kernel
abbrev b_Terms_tidy : ByteArray := prog_8_method_24_code
abbrev y_Terms_tidy : MethodName := ⟨R_Terms, "tidy", "([I[II)V"⟩
set_option maxRecDepth 100000 in
theorem cd_Terms_tidy : Cond.code y_Terms_tidy b_Terms_tidy 4 none ∈ x_T := xmem2 178 rfl rfl
set_option maxRecDepth 100000 in
theorem im_Terms_tidy : Cond.instanceMethod y_Terms_tidy ∈ x_T := xmem2 176 rfl rfl
set_option maxRecDepth 100000 in
theorem sl_Terms_tidy : Cond.selects R_Terms y_Terms_tidy y_Terms_tidy ∈ x_T := xmem2 177 rfl rfl
set_option maxRecDepth 100000 in
theorem hv_Terms_tidy : y_Terms_tidy.cls = R_Terms ∧ y_Terms_tidy.cls ≠ "java/lang/invoke/MethodHandle" ∧ y_Terms_tidy.cls ≠ "java/lang/invoke/VarHandle" ∧ (parseMethodDescriptor y_Terms_tidy.desc).map (fun d => d.parameters.length) = some 3 := by decide +kernel
abbrev b_Explorer_tidy : ByteArray := prog_3_method_3_code
abbrev y_Explorer_tidy : MethodName := ⟨R_Explorer, "tidy", "(LDerivativeDesk$Terms;[I)V"⟩
set_option maxRecDepth 100000 in
theorem cd_Explorer_tidy : Cond.code y_Explorer_tidy b_Explorer_tidy 3 none ∈ x_T := xmem2 174 rfl rfl
set_option maxRecDepth 100000 in
theorem im_Explorer_tidy : Cond.instanceMethod y_Explorer_tidy ∈ x_T := xmem2 172 rfl rfl
set_option maxRecDepth 100000 in
theorem sl_Explorer_tidy : Cond.selects R_Explorer y_Explorer_tidy y_Explorer_tidy ∈ x_T := xmem2 173 rfl rfl
set_option maxRecDepth 100000 in
theorem hv_Explorer_tidy : y_Explorer_tidy.cls = R_Explorer ∧ y_Explorer_tidy.cls ≠ "java/lang/invoke/MethodHandle" ∧ y_Explorer_tidy.cls ≠ "java/lang/invoke/VarHandle" ∧ (parseMethodDescriptor y_Explorer_tidy.desc).map (fun d => d.parameters.length) = some 2 := by decide +kernel
abbrev b_Row_clear : ByteArray := prog_6_method_2_code
abbrev y_Row_clear : MethodName := ⟨R_Row, "clear", "()V"⟩
set_option maxRecDepth 100000 in
theorem cd_Row_clear : Cond.code y_Row_clear b_Row_clear 1 none ∈ x_T := xmem2 218 rfl rfl
set_option maxRecDepth 100000 in
theorem im_Row_clear : Cond.instanceMethod y_Row_clear ∈ x_T := xmem2 216 rfl rfl
set_option maxRecDepth 100000 in
theorem sl_Row_clear : Cond.selects R_Row y_Row_clear y_Row_clear ∈ x_T := xmem2 217 rfl rfl
set_option maxRecDepth 100000 in
theorem hv_Row_clear : y_Row_clear.cls = R_Row ∧ y_Row_clear.cls ≠ "java/lang/invoke/MethodHandle" ∧ y_Row_clear.cls ≠ "java/lang/invoke/VarHandle" ∧ (parseMethodDescriptor y_Row_clear.desc).map (fun d => d.parameters.length) = some 0 := by decide +kernel
abbrev b_Row_add : ByteArray := prog_6_method_5_code
abbrev y_Row_add : MethodName := ⟨R_Row, "add", "(I)V"⟩
set_option maxRecDepth 100000 in
theorem cd_Row_add : Cond.code y_Row_add b_Row_add 2 none ∈ x_T := xmem2 223 rfl rfl
set_option maxRecDepth 100000 in
theorem im_Row_add : Cond.instanceMethod y_Row_add ∈ x_T := xmem2 221 rfl rfl
set_option maxRecDepth 100000 in
theorem sl_Row_add : Cond.selects R_Row y_Row_add y_Row_add ∈ x_T := xmem2 222 rfl rfl
set_option maxRecDepth 100000 in
theorem hv_Row_add : y_Row_add.cls = R_Row ∧ y_Row_add.cls ≠ "java/lang/invoke/MethodHandle" ∧ y_Row_add.cls ≠ "java/lang/invoke/VarHandle" ∧ (parseMethodDescriptor y_Row_add.desc).map (fun d => d.parameters.length) = some 1 := by decide +kernel
abbrev b_Row_size : ByteArray := prog_6_method_3_code
abbrev y_Row_size : MethodName := ⟨R_Row, "size", "()I"⟩
set_option maxRecDepth 100000 in
theorem cd_Row_size : Cond.code y_Row_size b_Row_size 1 (some .int) ∈ x_T := xmem3 3 rfl rfl
set_option maxRecDepth 100000 in
theorem im_Row_size : Cond.instanceMethod y_Row_size ∈ x_T := xmem3 1 rfl rfl
set_option maxRecDepth 100000 in
theorem sl_Row_size : Cond.selects R_Row y_Row_size y_Row_size ∈ x_T := xmem3 2 rfl rfl
set_option maxRecDepth 100000 in
theorem hv_Row_size : y_Row_size.cls = R_Row ∧ y_Row_size.cls ≠ "java/lang/invoke/MethodHandle" ∧ y_Row_size.cls ≠ "java/lang/invoke/VarHandle" ∧ (parseMethodDescriptor y_Row_size.desc).map (fun d => d.parameters.length) = some 0 := by decide +kernel
abbrev b_Row_get : ByteArray := prog_6_method_4_code
abbrev y_Row_get : MethodName := ⟨R_Row, "get", "(I)I"⟩
set_option maxRecDepth 100000 in
theorem cd_Row_get : Cond.code y_Row_get b_Row_get 2 (some .int) ∈ x_T := xmem3 7 rfl rfl
set_option maxRecDepth 100000 in
theorem im_Row_get : Cond.instanceMethod y_Row_get ∈ x_T := xmem3 5 rfl rfl
set_option maxRecDepth 100000 in
theorem sl_Row_get : Cond.selects R_Row y_Row_get y_Row_get ∈ x_T := xmem3 6 rfl rfl
set_option maxRecDepth 100000 in
theorem hv_Row_get : y_Row_get.cls = R_Row ∧ y_Row_get.cls ≠ "java/lang/invoke/MethodHandle" ∧ y_Row_get.cls ≠ "java/lang/invoke/VarHandle" ∧ (parseMethodDescriptor y_Row_get.desc).map (fun d => d.parameters.length) = some 1 := by decide +kernel
abbrev b_Terms_hasJust : ByteArray := prog_8_method_20_code
abbrev y_Terms_hasJust : MethodName := ⟨R_Terms, "hasJust", "(ILDerivativeDesk$Row;)Z"⟩
set_option maxRecDepth 100000 in
theorem cd_Terms_hasJust : Cond.code y_Terms_hasJust b_Terms_hasJust 4 (some .boolean) ∈ x_T := xmem3 15 rfl rfl
set_option maxRecDepth 100000 in
theorem im_Terms_hasJust : Cond.instanceMethod y_Terms_hasJust ∈ x_T := xmem3 14 rfl rfl
set_option maxRecDepth 100000 in
theorem sl_Terms_hasJust : Cond.selects R_Terms y_Terms_hasJust y_Terms_hasJust ∈ x_T := xmemS 9 rfl rfl
set_option maxRecDepth 100000 in
theorem hv_Terms_hasJust : y_Terms_hasJust.cls = R_Terms ∧ y_Terms_hasJust.cls ≠ "java/lang/invoke/MethodHandle" ∧ y_Terms_hasJust.cls ≠ "java/lang/invoke/VarHandle" ∧ (parseMethodDescriptor y_Terms_hasJust.desc).map (fun d => d.parameters.length) = some 2 := by decide +kernel
abbrev b_Terms_makeRoom : ByteArray := prog_8_method_23_code
abbrev y_Terms_makeRoom : MethodName := ⟨R_Terms, "makeRoom", "(I)V"⟩
set_option maxRecDepth 100000 in
theorem cd_Terms_makeRoom : Cond.code y_Terms_makeRoom b_Terms_makeRoom 3 none ∈ x_T := xmem3 19 rfl rfl
set_option maxRecDepth 100000 in
theorem im_Terms_makeRoom : Cond.instanceMethod y_Terms_makeRoom ∈ x_T := xmem3 18 rfl rfl
set_option maxRecDepth 100000 in
theorem sl_Terms_makeRoom : Cond.selects R_Terms y_Terms_makeRoom y_Terms_makeRoom ∈ x_T := xmemS 10 rfl rfl
set_option maxRecDepth 100000 in
theorem hv_Terms_makeRoom : y_Terms_makeRoom.cls = R_Terms ∧ y_Terms_makeRoom.cls ≠ "java/lang/invoke/MethodHandle" ∧ y_Terms_makeRoom.cls ≠ "java/lang/invoke/VarHandle" ∧ (parseMethodDescriptor y_Terms_makeRoom.desc).map (fun d => d.parameters.length) = some 1 := by decide +kernel
abbrev b_Terms_isNullableWith : ByteArray := prog_8_method_22_code
abbrev y_Terms_isNullableWith : MethodName := ⟨R_Terms, "isNullableWith", "(III)Z"⟩
set_option maxRecDepth 100000 in
theorem cd_Terms_isNullableWith : Cond.code y_Terms_isNullableWith b_Terms_isNullableWith 3 (some .boolean) ∈ x_T := xmem3 27 rfl rfl
set_option maxRecDepth 100000 in
theorem st_Terms_isNullableWith : Cond.static y_Terms_isNullableWith ∈ x_T := xmem3 26 rfl rfl
set_option maxRecDepth 100000 in
theorem hs_Terms_isNullableWith : y_Terms_isNullableWith.cls ≠ "java/lang/invoke/MethodHandle" ∧ y_Terms_isNullableWith.cls ≠ "java/lang/invoke/VarHandle" ∧ (parseMethodDescriptor y_Terms_isNullableWith.desc).map (fun d => d.parameters.length) = some 3 := by decide +kernel
abbrev b_Terms_addNode : ByteArray := prog_8_method_21_code
abbrev y_Terms_addNode : MethodName := ⟨R_Terms, "addNode", "(ILDerivativeDesk$Row;I)I"⟩
set_option maxRecDepth 100000 in
theorem cd_Terms_addNode : Cond.code y_Terms_addNode b_Terms_addNode 9 (some .int) ∈ x_T := xmem3 24 rfl rfl
set_option maxRecDepth 100000 in
theorem im_Terms_addNode : Cond.instanceMethod y_Terms_addNode ∈ x_T := xmem3 23 rfl rfl
set_option maxRecDepth 100000 in
theorem sl_Terms_addNode : Cond.selects R_Terms y_Terms_addNode y_Terms_addNode ∈ x_T := xmemS 11 rfl rfl
set_option maxRecDepth 100000 in
theorem hv_Terms_addNode : y_Terms_addNode.cls = R_Terms ∧ y_Terms_addNode.cls ≠ "java/lang/invoke/MethodHandle" ∧ y_Terms_addNode.cls ≠ "java/lang/invoke/VarHandle" ∧ (parseMethodDescriptor y_Terms_addNode.desc).map (fun d => d.parameters.length) = some 3 := by decide +kernel
abbrev b_Terms_node : ByteArray := prog_8_method_19_code
abbrev y_Terms_node : MethodName := ⟨R_Terms, "node", "(ILDerivativeDesk$Row;)I"⟩
set_option maxRecDepth 100000 in
theorem cd_Terms_node : Cond.code y_Terms_node b_Terms_node 6 (some .int) ∈ x_T := xmem3 11 rfl rfl
set_option maxRecDepth 100000 in
theorem im_Terms_node : Cond.instanceMethod y_Terms_node ∈ x_T := xmem3 10 rfl rfl
set_option maxRecDepth 100000 in
theorem sl_Terms_node : Cond.selects R_Terms y_Terms_node y_Terms_node ∈ x_T := xmemS 8 rfl rfl
set_option maxRecDepth 100000 in
theorem hv_Terms_node : y_Terms_node.cls = R_Terms ∧ y_Terms_node.cls ≠ "java/lang/invoke/MethodHandle" ∧ y_Terms_node.cls ≠ "java/lang/invoke/VarHandle" ∧ (parseMethodDescriptor y_Terms_node.desc).map (fun d => d.parameters.length) = some 2 := by decide +kernel
abbrev b_Terms_cat : ByteArray := prog_8_method_9_code
abbrev y_Terms_cat : MethodName := ⟨R_Terms, "cat", "(II)I"⟩
set_option maxRecDepth 100000 in
theorem cd_Terms_cat : Cond.code y_Terms_cat b_Terms_cat 6 (some .int) ∈ x_T := xmem2 214 rfl rfl
set_option maxRecDepth 100000 in
theorem im_Terms_cat : Cond.instanceMethod y_Terms_cat ∈ x_T := xmem2 212 rfl rfl
set_option maxRecDepth 100000 in
theorem sl_Terms_cat : Cond.selects R_Terms y_Terms_cat y_Terms_cat ∈ x_T := xmem2 213 rfl rfl
set_option maxRecDepth 100000 in
theorem hv_Terms_cat : y_Terms_cat.cls = R_Terms ∧ y_Terms_cat.cls ≠ "java/lang/invoke/MethodHandle" ∧ y_Terms_cat.cls ≠ "java/lang/invoke/VarHandle" ∧ (parseMethodDescriptor y_Terms_cat.desc).map (fun d => d.parameters.length) = some 2 := by decide +kernel
abbrev b_Gathering_begin : ByteArray := prog_4_method_2_code
abbrev y_Gathering_begin : MethodName := ⟨R_Gathering, "begin", "(I)V"⟩
set_option maxRecDepth 100000 in
theorem cd_Gathering_begin : Cond.code y_Gathering_begin b_Gathering_begin 2 none ∈ x_T := xmem3 35 rfl rfl
set_option maxRecDepth 100000 in
theorem im_Gathering_begin : Cond.instanceMethod y_Gathering_begin ∈ x_T := xmem3 33 rfl rfl
set_option maxRecDepth 100000 in
theorem sl_Gathering_begin : Cond.selects R_Gathering y_Gathering_begin y_Gathering_begin ∈ x_T := xmem3 34 rfl rfl
set_option maxRecDepth 100000 in
theorem hv_Gathering_begin : y_Gathering_begin.cls = R_Gathering ∧ y_Gathering_begin.cls ≠ "java/lang/invoke/MethodHandle" ∧ y_Gathering_begin.cls ≠ "java/lang/invoke/VarHandle" ∧ (parseMethodDescriptor y_Gathering_begin.desc).map (fun d => d.parameters.length) = some 1 := by decide +kernel
abbrev b_Gathering_swallower : ByteArray := prog_4_method_7_code
abbrev y_Gathering_swallower : MethodName := ⟨R_Gathering, "swallower", "()I"⟩
set_option maxRecDepth 100000 in
theorem cd_Gathering_swallower : Cond.code y_Gathering_swallower b_Gathering_swallower 1 (some .int) ∈ x_T := xmem3 48 rfl rfl
set_option maxRecDepth 100000 in
theorem im_Gathering_swallower : Cond.instanceMethod y_Gathering_swallower ∈ x_T := xmem3 47 rfl rfl
set_option maxRecDepth 100000 in
theorem sl_Gathering_swallower : Cond.selects R_Gathering y_Gathering_swallower y_Gathering_swallower ∈ x_T := xmemS 13 rfl rfl
set_option maxRecDepth 100000 in
theorem hv_Gathering_swallower : y_Gathering_swallower.cls = R_Gathering ∧ y_Gathering_swallower.cls ≠ "java/lang/invoke/MethodHandle" ∧ y_Gathering_swallower.cls ≠ "java/lang/invoke/VarHandle" ∧ (parseMethodDescriptor y_Gathering_swallower.desc).map (fun d => d.parameters.length) = some 0 := by decide +kernel
abbrev b_Gathering_takeClass : ByteArray := prog_4_method_4_code
abbrev y_Gathering_takeClass : MethodName := ⟨R_Gathering, "takeClass", "(I)V"⟩
set_option maxRecDepth 100000 in
theorem cd_Gathering_takeClass : Cond.code y_Gathering_takeClass b_Gathering_takeClass 2 none ∈ x_T := xmem3 52 rfl rfl
set_option maxRecDepth 100000 in
theorem im_Gathering_takeClass : Cond.instanceMethod y_Gathering_takeClass ∈ x_T := xmem3 51 rfl rfl
set_option maxRecDepth 100000 in
theorem sl_Gathering_takeClass : Cond.selects R_Gathering y_Gathering_takeClass y_Gathering_takeClass ∈ x_T := xmemS 14 rfl rfl
set_option maxRecDepth 100000 in
theorem hv_Gathering_takeClass : y_Gathering_takeClass.cls = R_Gathering ∧ y_Gathering_takeClass.cls ≠ "java/lang/invoke/MethodHandle" ∧ y_Gathering_takeClass.cls ≠ "java/lang/invoke/VarHandle" ∧ (parseMethodDescriptor y_Gathering_takeClass.desc).map (fun d => d.parameters.length) = some 1 := by decide +kernel
abbrev b_Gathering_neutral : ByteArray := prog_4_method_8_code
abbrev y_Gathering_neutral : MethodName := ⟨R_Gathering, "neutral", "()I"⟩
set_option maxRecDepth 100000 in
theorem cd_Gathering_neutral : Cond.code y_Gathering_neutral b_Gathering_neutral 1 (some .int) ∈ x_T := xmem3 56 rfl rfl
set_option maxRecDepth 100000 in
theorem im_Gathering_neutral : Cond.instanceMethod y_Gathering_neutral ∈ x_T := xmem3 55 rfl rfl
set_option maxRecDepth 100000 in
theorem sl_Gathering_neutral : Cond.selects R_Gathering y_Gathering_neutral y_Gathering_neutral ∈ x_T := xmemS 15 rfl rfl
set_option maxRecDepth 100000 in
theorem hv_Gathering_neutral : y_Gathering_neutral.cls = R_Gathering ∧ y_Gathering_neutral.cls ≠ "java/lang/invoke/MethodHandle" ∧ y_Gathering_neutral.cls ≠ "java/lang/invoke/VarHandle" ∧ (parseMethodDescriptor y_Gathering_neutral.desc).map (fun d => d.parameters.length) = some 0 := by decide +kernel
abbrev b_Row_addInOrder : ByteArray := prog_6_method_7_code
abbrev y_Row_addInOrder : MethodName := ⟨R_Row, "addInOrder", "(I)V"⟩
set_option maxRecDepth 100000 in
theorem cd_Row_addInOrder : Cond.code y_Row_addInOrder b_Row_addInOrder 4 none ∈ x_T := xmem3 60 rfl rfl
set_option maxRecDepth 100000 in
theorem im_Row_addInOrder : Cond.instanceMethod y_Row_addInOrder ∈ x_T := xmem3 58 rfl rfl
set_option maxRecDepth 100000 in
theorem sl_Row_addInOrder : Cond.selects R_Row y_Row_addInOrder y_Row_addInOrder ∈ x_T := xmem3 59 rfl rfl
set_option maxRecDepth 100000 in
theorem hv_Row_addInOrder : y_Row_addInOrder.cls = R_Row ∧ y_Row_addInOrder.cls ≠ "java/lang/invoke/MethodHandle" ∧ y_Row_addInOrder.cls ≠ "java/lang/invoke/VarHandle" ∧ (parseMethodDescriptor y_Row_addInOrder.desc).map (fun d => d.parameters.length) = some 1 := by decide +kernel
abbrev b_Gathering_take : ByteArray := prog_4_method_3_code
abbrev y_Gathering_take : MethodName := ⟨R_Gathering, "take", "(I)V"⟩
set_option maxRecDepth 100000 in
theorem cd_Gathering_take : Cond.code y_Gathering_take b_Gathering_take 2 none ∈ x_T := xmem3 44 rfl rfl
set_option maxRecDepth 100000 in
theorem im_Gathering_take : Cond.instanceMethod y_Gathering_take ∈ x_T := xmem3 42 rfl rfl
set_option maxRecDepth 100000 in
theorem sl_Gathering_take : Cond.selects R_Gathering y_Gathering_take y_Gathering_take ∈ x_T := xmem3 43 rfl rfl
set_option maxRecDepth 100000 in
theorem hv_Gathering_take : y_Gathering_take.cls = R_Gathering ∧ y_Gathering_take.cls ≠ "java/lang/invoke/MethodHandle" ∧ y_Gathering_take.cls ≠ "java/lang/invoke/VarHandle" ∧ (parseMethodDescriptor y_Gathering_take.desc).map (fun d => d.parameters.length) = some 1 := by decide +kernel
abbrev b_Terms_gather : ByteArray := prog_8_method_17_code
abbrev y_Terms_gather : MethodName := ⟨R_Terms, "gather", "(II)V"⟩
set_option maxRecDepth 100000 in
theorem cd_Terms_gather : Cond.code y_Terms_gather b_Terms_gather 4 none ∈ x_T := xmem3 40 rfl rfl
set_option maxRecDepth 100000 in
theorem im_Terms_gather : Cond.instanceMethod y_Terms_gather ∈ x_T := xmem3 39 rfl rfl
set_option maxRecDepth 100000 in
theorem sl_Terms_gather : Cond.selects R_Terms y_Terms_gather y_Terms_gather ∈ x_T := xmemS 12 rfl rfl
set_option maxRecDepth 100000 in
theorem hv_Terms_gather : y_Terms_gather.cls = R_Terms ∧ y_Terms_gather.cls ≠ "java/lang/invoke/MethodHandle" ∧ y_Terms_gather.cls ≠ "java/lang/invoke/VarHandle" ∧ (parseMethodDescriptor y_Terms_gather.desc).map (fun d => d.parameters.length) = some 2 := by decide +kernel
abbrev b_Gathering_single : ByteArray := prog_4_method_5_code
abbrev y_Gathering_single : MethodName := ⟨R_Gathering, "single", "()I"⟩
set_option maxRecDepth 100000 in
theorem cd_Gathering_single : Cond.code y_Gathering_single b_Gathering_single 1 (some .int) ∈ x_T := xmem3 68 rfl rfl
set_option maxRecDepth 100000 in
theorem im_Gathering_single : Cond.instanceMethod y_Gathering_single ∈ x_T := xmem3 66 rfl rfl
set_option maxRecDepth 100000 in
theorem sl_Gathering_single : Cond.selects R_Gathering y_Gathering_single y_Gathering_single ∈ x_T := xmem3 67 rfl rfl
set_option maxRecDepth 100000 in
theorem hv_Gathering_single : y_Gathering_single.cls = R_Gathering ∧ y_Gathering_single.cls ≠ "java/lang/invoke/MethodHandle" ∧ y_Gathering_single.cls ≠ "java/lang/invoke/VarHandle" ∧ (parseMethodDescriptor y_Gathering_single.desc).map (fun d => d.parameters.length) = some 0 := by decide +kernel
abbrev b_Gathering_own : ByteArray := prog_4_method_6_code
abbrev y_Gathering_own : MethodName := ⟨R_Gathering, "own", "()LDerivativeDesk$Row;"⟩
set_option maxRecDepth 100000 in
theorem cd_Gathering_own : Cond.code y_Gathering_own b_Gathering_own 1 (some (.object "DerivativeDesk$Row")) ∈ x_T := xmem3 74 rfl rfl
set_option maxRecDepth 100000 in
theorem im_Gathering_own : Cond.instanceMethod y_Gathering_own ∈ x_T := xmem3 72 rfl rfl
set_option maxRecDepth 100000 in
theorem sl_Gathering_own : Cond.selects R_Gathering y_Gathering_own y_Gathering_own ∈ x_T := xmem3 73 rfl rfl
set_option maxRecDepth 100000 in
theorem hv_Gathering_own : y_Gathering_own.cls = R_Gathering ∧ y_Gathering_own.cls ≠ "java/lang/invoke/MethodHandle" ∧ y_Gathering_own.cls ≠ "java/lang/invoke/VarHandle" ∧ (parseMethodDescriptor y_Gathering_own.desc).map (fun d => d.parameters.length) = some 0 := by decide +kernel
abbrev b_Terms_gathered : ByteArray := prog_8_method_18_code
abbrev y_Terms_gathered : MethodName := ⟨R_Terms, "gathered", "(I)I"⟩
set_option maxRecDepth 100000 in
theorem cd_Terms_gathered : Cond.code y_Terms_gathered b_Terms_gathered 3 (some .int) ∈ x_T := xmem3 64 rfl rfl
set_option maxRecDepth 100000 in
theorem im_Terms_gathered : Cond.instanceMethod y_Terms_gathered ∈ x_T := xmem3 63 rfl rfl
set_option maxRecDepth 100000 in
theorem sl_Terms_gathered : Cond.selects R_Terms y_Terms_gathered y_Terms_gathered ∈ x_T := xmemS 16 rfl rfl
set_option maxRecDepth 100000 in
theorem hv_Terms_gathered : y_Terms_gathered.cls = R_Terms ∧ y_Terms_gathered.cls ≠ "java/lang/invoke/MethodHandle" ∧ y_Terms_gathered.cls ≠ "java/lang/invoke/VarHandle" ∧ (parseMethodDescriptor y_Terms_gathered.desc).map (fun d => d.parameters.length) = some 1 := by decide +kernel
abbrev b_Terms_both : ByteArray := prog_8_method_10_code
abbrev y_Terms_both : MethodName := ⟨R_Terms, "both", "(III)I"⟩
set_option maxRecDepth 100000 in
theorem cd_Terms_both : Cond.code y_Terms_both b_Terms_both 4 (some .int) ∈ x_T := xmem3 31 rfl rfl
set_option maxRecDepth 100000 in
theorem im_Terms_both : Cond.instanceMethod y_Terms_both ∈ x_T := xmem3 29 rfl rfl
set_option maxRecDepth 100000 in
theorem sl_Terms_both : Cond.selects R_Terms y_Terms_both y_Terms_both ∈ x_T := xmem3 30 rfl rfl
set_option maxRecDepth 100000 in
theorem hv_Terms_both : y_Terms_both.cls = R_Terms ∧ y_Terms_both.cls ≠ "java/lang/invoke/MethodHandle" ∧ y_Terms_both.cls ≠ "java/lang/invoke/VarHandle" ∧ (parseMethodDescriptor y_Terms_both.desc).map (fun d => d.parameters.length) = some 3 := by decide +kernel
abbrev b_D_join : ByteArray := prog_1_method_3_code
abbrev y_D_join : MethodName := ⟨R_D, "join", "(IIII)I"⟩
set_option maxRecDepth 100000 in
theorem cd_D_join : Cond.code y_D_join b_D_join 5 (some .int) ∈ x_T := xmem2 170 rfl rfl
set_option maxRecDepth 100000 in
theorem im_D_join : Cond.instanceMethod y_D_join ∈ x_T := xmem2 168 rfl rfl
set_option maxRecDepth 100000 in
theorem sl_D_join : Cond.selects R_D y_D_join y_D_join ∈ x_T := xmem2 169 rfl rfl
set_option maxRecDepth 100000 in
theorem hv_D_join : y_D_join.cls = R_D ∧ y_D_join.cls ≠ "java/lang/invoke/MethodHandle" ∧ y_D_join.cls ≠ "java/lang/invoke/VarHandle" ∧ (parseMethodDescriptor y_D_join.desc).map (fun d => d.parameters.length) = some 4 := by decide +kernel
abbrev b_Terms_not : ByteArray := prog_8_method_11_code
abbrev y_Terms_not : MethodName := ⟨R_Terms, "not", "(I)I"⟩
set_option maxRecDepth 100000 in
theorem cd_Terms_not : Cond.code y_Terms_not b_Terms_not 2 (some .int) ∈ x_T := xmem3 85 rfl rfl
set_option maxRecDepth 100000 in
theorem im_Terms_not : Cond.instanceMethod y_Terms_not ∈ x_T := xmem3 83 rfl rfl
set_option maxRecDepth 100000 in
theorem sl_Terms_not : Cond.selects R_Terms y_Terms_not y_Terms_not ∈ x_T := xmem3 84 rfl rfl
set_option maxRecDepth 100000 in
theorem hv_Terms_not : y_Terms_not.cls = R_Terms ∧ y_Terms_not.cls ≠ "java/lang/invoke/MethodHandle" ∧ y_Terms_not.cls ≠ "java/lang/invoke/VarHandle" ∧ (parseMethodDescriptor y_Terms_not.desc).map (fun d => d.parameters.length) = some 1 := by decide +kernel
abbrev b_Terms_star : ByteArray := prog_8_method_12_code
abbrev y_Terms_star : MethodName := ⟨R_Terms, "star", "(I)I"⟩
set_option maxRecDepth 100000 in
theorem cd_Terms_star : Cond.code y_Terms_star b_Terms_star 2 (some .int) ∈ x_T := xmem3 89 rfl rfl
set_option maxRecDepth 100000 in
theorem im_Terms_star : Cond.instanceMethod y_Terms_star ∈ x_T := xmem3 87 rfl rfl
set_option maxRecDepth 100000 in
theorem sl_Terms_star : Cond.selects R_Terms y_Terms_star y_Terms_star ∈ x_T := xmem3 88 rfl rfl
set_option maxRecDepth 100000 in
theorem hv_Terms_star : y_Terms_star.cls = R_Terms ∧ y_Terms_star.cls ≠ "java/lang/invoke/MethodHandle" ∧ y_Terms_star.cls ≠ "java/lang/invoke/VarHandle" ∧ (parseMethodDescriptor y_Terms_star.desc).map (fun d => d.parameters.length) = some 1 := by decide +kernel
abbrev b_D_turn : ByteArray := prog_1_method_4_code
abbrev y_D_turn : MethodName := ⟨R_D, "turn", "(III)I"⟩
set_option maxRecDepth 100000 in
theorem cd_D_turn : Cond.code y_D_turn b_D_turn 4 (some .int) ∈ x_T := xmem3 81 rfl rfl
set_option maxRecDepth 100000 in
theorem im_D_turn : Cond.instanceMethod y_D_turn ∈ x_T := xmem3 79 rfl rfl
set_option maxRecDepth 100000 in
theorem sl_D_turn : Cond.selects R_D y_D_turn y_D_turn ∈ x_T := xmem3 80 rfl rfl
set_option maxRecDepth 100000 in
theorem hv_D_turn : y_D_turn.cls = R_D ∧ y_D_turn.cls ≠ "java/lang/invoke/MethodHandle" ∧ y_D_turn.cls ≠ "java/lang/invoke/VarHandle" ∧ (parseMethodDescriptor y_D_turn.desc).map (fun d => d.parameters.length) = some 3 := by decide +kernel
abbrev b_Row_dropLast : ByteArray := prog_6_method_6_code
abbrev y_Row_dropLast : MethodName := ⟨R_Row, "dropLast", "()V"⟩
set_option maxRecDepth 100000 in
theorem cd_Row_dropLast : Cond.code y_Row_dropLast b_Row_dropLast 1 none ∈ x_T := xmem3 104 rfl rfl
set_option maxRecDepth 100000 in
theorem im_Row_dropLast : Cond.instanceMethod y_Row_dropLast ∈ x_T := xmem3 102 rfl rfl
set_option maxRecDepth 100000 in
theorem sl_Row_dropLast : Cond.selects R_Row y_Row_dropLast y_Row_dropLast ∈ x_T := xmem3 103 rfl rfl
set_option maxRecDepth 100000 in
theorem hv_Row_dropLast : y_Row_dropLast.cls = R_Row ∧ y_Row_dropLast.cls ≠ "java/lang/invoke/MethodHandle" ∧ y_Row_dropLast.cls ≠ "java/lang/invoke/VarHandle" ∧ (parseMethodDescriptor y_Row_dropLast.desc).map (fun d => d.parameters.length) = some 0 := by decide +kernel
abbrev b_Terms_asksForMore : ByteArray := prog_8_method_14_code
abbrev y_Terms_asksForMore : MethodName := ⟨R_Terms, "asksForMore", "(II)Z"⟩
set_option maxRecDepth 100000 in
theorem cd_Terms_asksForMore : Cond.code y_Terms_asksForMore b_Terms_asksForMore 8 (some .boolean) ∈ x_T := xmem3 108 rfl rfl
set_option maxRecDepth 100000 in
theorem im_Terms_asksForMore : Cond.instanceMethod y_Terms_asksForMore ∈ x_T := xmem3 107 rfl rfl
set_option maxRecDepth 100000 in
theorem sl_Terms_asksForMore : Cond.selects R_Terms y_Terms_asksForMore y_Terms_asksForMore ∈ x_T := xmemS 17 rfl rfl
set_option maxRecDepth 100000 in
theorem hv_Terms_asksForMore : y_Terms_asksForMore.cls = R_Terms ∧ y_Terms_asksForMore.cls ≠ "java/lang/invoke/MethodHandle" ∧ y_Terms_asksForMore.cls ≠ "java/lang/invoke/VarHandle" ∧ (parseMethodDescriptor y_Terms_asksForMore.desc).map (fun d => d.parameters.length) = some 2 := by decide +kernel
abbrev b_Terms_kidAfter : ByteArray := prog_8_method_16_code
abbrev y_Terms_kidAfter : MethodName := ⟨R_Terms, "kidAfter", "(III)I"⟩
set_option maxRecDepth 100000 in
theorem cd_Terms_kidAfter : Cond.code y_Terms_kidAfter b_Terms_kidAfter 4 (some .int) ∈ x_T := xmem3 116 rfl rfl
set_option maxRecDepth 100000 in
theorem im_Terms_kidAfter : Cond.instanceMethod y_Terms_kidAfter ∈ x_T := xmem3 115 rfl rfl
set_option maxRecDepth 100000 in
theorem sl_Terms_kidAfter : Cond.selects R_Terms y_Terms_kidAfter y_Terms_kidAfter ∈ x_T := xmemS 19 rfl rfl
set_option maxRecDepth 100000 in
theorem hv_Terms_kidAfter : y_Terms_kidAfter.cls = R_Terms ∧ y_Terms_kidAfter.cls ≠ "java/lang/invoke/MethodHandle" ∧ y_Terms_kidAfter.cls ≠ "java/lang/invoke/VarHandle" ∧ (parseMethodDescriptor y_Terms_kidAfter.desc).map (fun d => d.parameters.length) = some 3 := by decide +kernel
abbrev b_Terms_combined : ByteArray := prog_8_method_15_code
abbrev y_Terms_combined : MethodName := ⟨R_Terms, "combined", "(II)I"⟩
set_option maxRecDepth 100000 in
theorem cd_Terms_combined : Cond.code y_Terms_combined b_Terms_combined 5 (some .int) ∈ x_T := xmem3 112 rfl rfl
set_option maxRecDepth 100000 in
theorem im_Terms_combined : Cond.instanceMethod y_Terms_combined ∈ x_T := xmem3 111 rfl rfl
set_option maxRecDepth 100000 in
theorem sl_Terms_combined : Cond.selects R_Terms y_Terms_combined y_Terms_combined ∈ x_T := xmemS 18 rfl rfl
set_option maxRecDepth 100000 in
theorem hv_Terms_combined : y_Terms_combined.cls = R_Terms ∧ y_Terms_combined.cls ≠ "java/lang/invoke/MethodHandle" ∧ y_Terms_combined.cls ≠ "java/lang/invoke/VarHandle" ∧ (parseMethodDescriptor y_Terms_combined.desc).map (fun d => d.parameters.length) = some 2 := by decide +kernel
abbrev b_Terms_derivative : ByteArray := prog_8_method_13_code
abbrev y_Terms_derivative : MethodName := ⟨R_Terms, "derivative", "(II)I"⟩
set_option maxRecDepth 100000 in
theorem cd_Terms_derivative : Cond.code y_Terms_derivative b_Terms_derivative 6 (some .int) ∈ x_T := xmem3 100 rfl rfl
set_option maxRecDepth 100000 in
theorem im_Terms_derivative : Cond.instanceMethod y_Terms_derivative ∈ x_T := xmem3 98 rfl rfl
set_option maxRecDepth 100000 in
theorem sl_Terms_derivative : Cond.selects R_Terms y_Terms_derivative y_Terms_derivative ∈ x_T := xmem3 99 rfl rfl
set_option maxRecDepth 100000 in
theorem hv_Terms_derivative : y_Terms_derivative.cls = R_Terms ∧ y_Terms_derivative.cls ≠ "java/lang/invoke/MethodHandle" ∧ y_Terms_derivative.cls ≠ "java/lang/invoke/VarHandle" ∧ (parseMethodDescriptor y_Terms_derivative.desc).map (fun d => d.parameters.length) = some 2 := by decide +kernel
abbrev b_D_derive : ByteArray := prog_1_method_5_code
abbrev y_D_derive : MethodName := ⟨R_D, "derive", "(III)I"⟩
set_option maxRecDepth 100000 in
theorem cd_D_derive : Cond.code y_D_derive b_D_derive 4 (some .int) ∈ x_T := xmem3 96 rfl rfl
set_option maxRecDepth 100000 in
theorem im_D_derive : Cond.instanceMethod y_D_derive ∈ x_T := xmem3 94 rfl rfl
set_option maxRecDepth 100000 in
theorem sl_D_derive : Cond.selects R_D y_D_derive y_D_derive ∈ x_T := xmem3 95 rfl rfl
set_option maxRecDepth 100000 in
theorem hv_D_derive : y_D_derive.cls = R_D ∧ y_D_derive.cls ≠ "java/lang/invoke/MethodHandle" ∧ y_D_derive.cls ≠ "java/lang/invoke/VarHandle" ∧ (parseMethodDescriptor y_D_derive.desc).map (fun d => d.parameters.length) = some 3 := by decide +kernel
abbrev b_D_similar : ByteArray := prog_1_method_6_code
abbrev y_D_similar : MethodName := ⟨R_D, "similar", "(II)Z"⟩
set_option maxRecDepth 100000 in
theorem cd_D_similar : Cond.code y_D_similar b_D_similar 3 (some .boolean) ∈ x_T := xmem3 125 rfl rfl
set_option maxRecDepth 100000 in
theorem im_D_similar : Cond.instanceMethod y_D_similar ∈ x_T := xmem3 123 rfl rfl
set_option maxRecDepth 100000 in
theorem sl_D_similar : Cond.selects R_D y_D_similar y_D_similar ∈ x_T := xmem3 124 rfl rfl
set_option maxRecDepth 100000 in
theorem hv_D_similar : y_D_similar.cls = R_D ∧ y_D_similar.cls ≠ "java/lang/invoke/MethodHandle" ∧ y_D_similar.cls ≠ "java/lang/invoke/VarHandle" ∧ (parseMethodDescriptor y_D_similar.desc).map (fun d => d.parameters.length) = some 2 := by decide +kernel
abbrev b_Terms_tagOf : ByteArray := prog_8_method_7_code
abbrev y_Terms_tagOf : MethodName := ⟨R_Terms, "tagOf", "(I)I"⟩
set_option maxRecDepth 100000 in
theorem cd_Terms_tagOf : Cond.code y_Terms_tagOf b_Terms_tagOf 2 (some .int) ∈ x_T := xmem3 153 rfl rfl
set_option maxRecDepth 100000 in
theorem im_Terms_tagOf : Cond.instanceMethod y_Terms_tagOf ∈ x_T := xmem3 151 rfl rfl
set_option maxRecDepth 100000 in
theorem sl_Terms_tagOf : Cond.selects R_Terms y_Terms_tagOf y_Terms_tagOf ∈ x_T := xmem3 152 rfl rfl
set_option maxRecDepth 100000 in
theorem hv_Terms_tagOf : y_Terms_tagOf.cls = R_Terms ∧ y_Terms_tagOf.cls ≠ "java/lang/invoke/MethodHandle" ∧ y_Terms_tagOf.cls ≠ "java/lang/invoke/VarHandle" ∧ (parseMethodDescriptor y_Terms_tagOf.desc).map (fun d => d.parameters.length) = some 1 := by decide +kernel
abbrev b_WordCheck_isArranged : ByteArray := prog_9_method_4_code
abbrev y_WordCheck_isArranged : MethodName := ⟨R_WordCheck, "isArranged", "(LDerivativeDesk$Terms;I)Z"⟩
set_option maxRecDepth 100000 in
theorem cd_WordCheck_isArranged : Cond.code y_WordCheck_isArranged b_WordCheck_isArranged 4 (some .boolean) ∈ x_T := xmem3 149 rfl rfl
set_option maxRecDepth 100000 in
theorem im_WordCheck_isArranged : Cond.instanceMethod y_WordCheck_isArranged ∈ x_T := xmem3 148 rfl rfl
set_option maxRecDepth 100000 in
theorem sl_WordCheck_isArranged : Cond.selects R_WordCheck y_WordCheck_isArranged y_WordCheck_isArranged ∈ x_T := xmemS 21 rfl rfl
set_option maxRecDepth 100000 in
theorem hv_WordCheck_isArranged : y_WordCheck_isArranged.cls = R_WordCheck ∧ y_WordCheck_isArranged.cls ≠ "java/lang/invoke/MethodHandle" ∧ y_WordCheck_isArranged.cls ≠ "java/lang/invoke/VarHandle" ∧ (parseMethodDescriptor y_WordCheck_isArranged.desc).map (fun d => d.parameters.length) = some 2 := by decide +kernel
abbrev b_Terms_countOf : ByteArray := prog_8_method_5_code
abbrev y_Terms_countOf : MethodName := ⟨R_Terms, "countOf", "(I)I"⟩
set_option maxRecDepth 100000 in
theorem cd_Terms_countOf : Cond.code y_Terms_countOf b_Terms_countOf 2 (some .int) ∈ x_T := xmem3 162 rfl rfl
set_option maxRecDepth 100000 in
theorem im_Terms_countOf : Cond.instanceMethod y_Terms_countOf ∈ x_T := xmem3 160 rfl rfl
set_option maxRecDepth 100000 in
theorem sl_Terms_countOf : Cond.selects R_Terms y_Terms_countOf y_Terms_countOf ∈ x_T := xmem3 161 rfl rfl
set_option maxRecDepth 100000 in
theorem hv_Terms_countOf : y_Terms_countOf.cls = R_Terms ∧ y_Terms_countOf.cls ≠ "java/lang/invoke/MethodHandle" ∧ y_Terms_countOf.cls ≠ "java/lang/invoke/VarHandle" ∧ (parseMethodDescriptor y_Terms_countOf.desc).map (fun d => d.parameters.length) = some 1 := by decide +kernel
abbrev b_WordCheck_asksForMore : ByteArray := prog_9_method_5_code
abbrev y_WordCheck_asksForMore : MethodName := ⟨R_WordCheck, "asksForMore", "(LDerivativeDesk$Terms;I)Z"⟩
set_option maxRecDepth 100000 in
theorem cd_WordCheck_asksForMore : Cond.code y_WordCheck_asksForMore b_WordCheck_asksForMore 5 (some .boolean) ∈ x_T := xmem3 158 rfl rfl
set_option maxRecDepth 100000 in
theorem im_WordCheck_asksForMore : Cond.instanceMethod y_WordCheck_asksForMore ∈ x_T := xmem3 157 rfl rfl
set_option maxRecDepth 100000 in
theorem sl_WordCheck_asksForMore : Cond.selects R_WordCheck y_WordCheck_asksForMore y_WordCheck_asksForMore ∈ x_T := xmemS 22 rfl rfl
set_option maxRecDepth 100000 in
theorem hv_WordCheck_asksForMore : y_WordCheck_asksForMore.cls = R_WordCheck ∧ y_WordCheck_asksForMore.cls ≠ "java/lang/invoke/MethodHandle" ∧ y_WordCheck_asksForMore.cls ≠ "java/lang/invoke/VarHandle" ∧ (parseMethodDescriptor y_WordCheck_asksForMore.desc).map (fun d => d.parameters.length) = some 2 := by decide +kernel
abbrev b_Terms_setTag : ByteArray := prog_8_method_8_code
abbrev y_Terms_setTag : MethodName := ⟨R_Terms, "setTag", "(II)V"⟩
set_option maxRecDepth 100000 in
theorem cd_Terms_setTag : Cond.code y_Terms_setTag b_Terms_setTag 3 none ∈ x_T := xmem3 167 rfl rfl
set_option maxRecDepth 100000 in
theorem im_Terms_setTag : Cond.instanceMethod y_Terms_setTag ∈ x_T := xmem3 165 rfl rfl
set_option maxRecDepth 100000 in
theorem sl_Terms_setTag : Cond.selects R_Terms y_Terms_setTag y_Terms_setTag ∈ x_T := xmem3 166 rfl rfl
set_option maxRecDepth 100000 in
theorem hv_Terms_setTag : y_Terms_setTag.cls = R_Terms ∧ y_Terms_setTag.cls ≠ "java/lang/invoke/MethodHandle" ∧ y_Terms_setTag.cls ≠ "java/lang/invoke/VarHandle" ∧ (parseMethodDescriptor y_Terms_setTag.desc).map (fun d => d.parameters.length) = some 2 := by decide +kernel
abbrev b_WordCheck_arrange : ByteArray := prog_9_method_3_code
abbrev y_WordCheck_arrange : MethodName := ⟨R_WordCheck, "arrange", "(LDerivativeDesk$Terms;I)V"⟩
set_option maxRecDepth 100000 in
theorem cd_WordCheck_arrange : Cond.code y_WordCheck_arrange b_WordCheck_arrange 5 none ∈ x_T := xmem3 140 rfl rfl
set_option maxRecDepth 100000 in
theorem im_WordCheck_arrange : Cond.instanceMethod y_WordCheck_arrange ∈ x_T := xmem3 139 rfl rfl
set_option maxRecDepth 100000 in
theorem sl_WordCheck_arrange : Cond.selects R_WordCheck y_WordCheck_arrange y_WordCheck_arrange ∈ x_T := xmemS 20 rfl rfl
set_option maxRecDepth 100000 in
theorem hv_WordCheck_arrange : y_WordCheck_arrange.cls = R_WordCheck ∧ y_WordCheck_arrange.cls ≠ "java/lang/invoke/MethodHandle" ∧ y_WordCheck_arrange.cls ≠ "java/lang/invoke/VarHandle" ∧ (parseMethodDescriptor y_WordCheck_arrange.desc).map (fun d => d.parameters.length) = some 2 := by decide +kernel
abbrev b_Terms_sortOf : ByteArray := prog_8_method_2_code
abbrev y_Terms_sortOf : MethodName := ⟨R_Terms, "sortOf", "(I)I"⟩
set_option maxRecDepth 100000 in
theorem cd_Terms_sortOf : Cond.code y_Terms_sortOf b_Terms_sortOf 2 (some .int) ∈ x_T := xmem3 175 rfl rfl
set_option maxRecDepth 100000 in
theorem im_Terms_sortOf : Cond.instanceMethod y_Terms_sortOf ∈ x_T := xmem3 173 rfl rfl
set_option maxRecDepth 100000 in
theorem sl_Terms_sortOf : Cond.selects R_Terms y_Terms_sortOf y_Terms_sortOf ∈ x_T := xmem3 174 rfl rfl
set_option maxRecDepth 100000 in
theorem hv_Terms_sortOf : y_Terms_sortOf.cls = R_Terms ∧ y_Terms_sortOf.cls ≠ "java/lang/invoke/MethodHandle" ∧ y_Terms_sortOf.cls ≠ "java/lang/invoke/VarHandle" ∧ (parseMethodDescriptor y_Terms_sortOf.desc).map (fun d => d.parameters.length) = some 1 := by decide +kernel
abbrev b_WordCheck_letterAt : ByteArray := prog_9_method_7_code
abbrev y_WordCheck_letterAt : MethodName := ⟨R_WordCheck, "letterAt", "(I)I"⟩
set_option maxRecDepth 100000 in
theorem cd_WordCheck_letterAt : Cond.code y_WordCheck_letterAt b_WordCheck_letterAt 2 (some .int) ∈ x_T := xmem3 179 rfl rfl
set_option maxRecDepth 100000 in
theorem im_WordCheck_letterAt : Cond.instanceMethod y_WordCheck_letterAt ∈ x_T := xmem3 178 rfl rfl
set_option maxRecDepth 100000 in
theorem sl_WordCheck_letterAt : Cond.selects R_WordCheck y_WordCheck_letterAt y_WordCheck_letterAt ∈ x_T := xmemS 24 rfl rfl
set_option maxRecDepth 100000 in
theorem hv_WordCheck_letterAt : y_WordCheck_letterAt.cls = R_WordCheck ∧ y_WordCheck_letterAt.cls ≠ "java/lang/invoke/MethodHandle" ∧ y_WordCheck_letterAt.cls ≠ "java/lang/invoke/VarHandle" ∧ (parseMethodDescriptor y_WordCheck_letterAt.desc).map (fun d => d.parameters.length) = some 1 := by decide +kernel
abbrev b_WordCheck_endBitsOf : ByteArray := prog_9_method_8_code
abbrev y_WordCheck_endBitsOf : MethodName := ⟨R_WordCheck, "endBitsOf", "(LDerivativeDesk$Terms;II)I"⟩
set_option maxRecDepth 100000 in
theorem cd_WordCheck_endBitsOf : Cond.code y_WordCheck_endBitsOf b_WordCheck_endBitsOf 4 (some .int) ∈ x_T := xmem3 183 rfl rfl
set_option maxRecDepth 100000 in
theorem im_WordCheck_endBitsOf : Cond.instanceMethod y_WordCheck_endBitsOf ∈ x_T := xmem3 182 rfl rfl
set_option maxRecDepth 100000 in
theorem sl_WordCheck_endBitsOf : Cond.selects R_WordCheck y_WordCheck_endBitsOf y_WordCheck_endBitsOf ∈ x_T := xmemS 25 rfl rfl
set_option maxRecDepth 100000 in
theorem hv_WordCheck_endBitsOf : y_WordCheck_endBitsOf.cls = R_WordCheck ∧ y_WordCheck_endBitsOf.cls ≠ "java/lang/invoke/MethodHandle" ∧ y_WordCheck_endBitsOf.cls ≠ "java/lang/invoke/VarHandle" ∧ (parseMethodDescriptor y_WordCheck_endBitsOf.desc).map (fun d => d.parameters.length) = some 3 := by decide +kernel
abbrev b_WordCheck_goneOn : ByteArray := prog_9_method_9_code
abbrev y_WordCheck_goneOn : MethodName := ⟨R_WordCheck, "goneOn", "(LDerivativeDesk$Terms;II)I"⟩
set_option maxRecDepth 100000 in
theorem cd_WordCheck_goneOn : Cond.code y_WordCheck_goneOn b_WordCheck_goneOn 6 (some .int) ∈ x_T := xmem3 187 rfl rfl
set_option maxRecDepth 100000 in
theorem im_WordCheck_goneOn : Cond.instanceMethod y_WordCheck_goneOn ∈ x_T := xmem3 186 rfl rfl
set_option maxRecDepth 100000 in
theorem sl_WordCheck_goneOn : Cond.selects R_WordCheck y_WordCheck_goneOn y_WordCheck_goneOn ∈ x_T := xmemS 26 rfl rfl
set_option maxRecDepth 100000 in
theorem hv_WordCheck_goneOn : y_WordCheck_goneOn.cls = R_WordCheck ∧ y_WordCheck_goneOn.cls ≠ "java/lang/invoke/MethodHandle" ∧ y_WordCheck_goneOn.cls ≠ "java/lang/invoke/VarHandle" ∧ (parseMethodDescriptor y_WordCheck_goneOn.desc).map (fun d => d.parameters.length) = some 3 := by decide +kernel
abbrev b_WordCheck_merged : ByteArray := prog_9_method_10_code
abbrev y_WordCheck_merged : MethodName := ⟨R_WordCheck, "merged", "(LDerivativeDesk$Terms;II)I"⟩
set_option maxRecDepth 100000 in
theorem cd_WordCheck_merged : Cond.code y_WordCheck_merged b_WordCheck_merged 7 (some .int) ∈ x_T := xmem3 191 rfl rfl
set_option maxRecDepth 100000 in
theorem im_WordCheck_merged : Cond.instanceMethod y_WordCheck_merged ∈ x_T := xmem3 190 rfl rfl
set_option maxRecDepth 100000 in
theorem sl_WordCheck_merged : Cond.selects R_WordCheck y_WordCheck_merged y_WordCheck_merged ∈ x_T := xmemS 27 rfl rfl
set_option maxRecDepth 100000 in
theorem hv_WordCheck_merged : y_WordCheck_merged.cls = R_WordCheck ∧ y_WordCheck_merged.cls ≠ "java/lang/invoke/MethodHandle" ∧ y_WordCheck_merged.cls ≠ "java/lang/invoke/VarHandle" ∧ (parseMethodDescriptor y_WordCheck_merged.desc).map (fun d => d.parameters.length) = some 3 := by decide +kernel
abbrev b_WordCheck_endsFrom : ByteArray := prog_9_method_6_code
abbrev y_WordCheck_endsFrom : MethodName := ⟨R_WordCheck, "endsFrom", "(LDerivativeDesk$Terms;II)I"⟩
set_option maxRecDepth 100000 in
theorem cd_WordCheck_endsFrom : Cond.code y_WordCheck_endsFrom b_WordCheck_endsFrom 7 (some .int) ∈ x_T := xmem3 171 rfl rfl
set_option maxRecDepth 100000 in
theorem im_WordCheck_endsFrom : Cond.instanceMethod y_WordCheck_endsFrom ∈ x_T := xmem3 170 rfl rfl
set_option maxRecDepth 100000 in
theorem sl_WordCheck_endsFrom : Cond.selects R_WordCheck y_WordCheck_endsFrom y_WordCheck_endsFrom ∈ x_T := xmemS 23 rfl rfl
set_option maxRecDepth 100000 in
theorem hv_WordCheck_endsFrom : y_WordCheck_endsFrom.cls = R_WordCheck ∧ y_WordCheck_endsFrom.cls ≠ "java/lang/invoke/MethodHandle" ∧ y_WordCheck_endsFrom.cls ≠ "java/lang/invoke/VarHandle" ∧ (parseMethodDescriptor y_WordCheck_endsFrom.desc).map (fun d => d.parameters.length) = some 3 := by decide +kernel
abbrev b_WordCheck_accepts : ByteArray := prog_9_method_2_code
abbrev y_WordCheck_accepts : MethodName := ⟨R_WordCheck, "accepts", "(LDerivativeDesk$Terms;III)Z"⟩
set_option maxRecDepth 100000 in
theorem cd_WordCheck_accepts : Cond.code y_WordCheck_accepts b_WordCheck_accepts 7 (some .boolean) ∈ x_T := xmem3 136 rfl rfl
set_option maxRecDepth 100000 in
theorem im_WordCheck_accepts : Cond.instanceMethod y_WordCheck_accepts ∈ x_T := xmem3 134 rfl rfl
set_option maxRecDepth 100000 in
theorem sl_WordCheck_accepts : Cond.selects R_WordCheck y_WordCheck_accepts y_WordCheck_accepts ∈ x_T := xmem3 135 rfl rfl
set_option maxRecDepth 100000 in
theorem hv_WordCheck_accepts : y_WordCheck_accepts.cls = R_WordCheck ∧ y_WordCheck_accepts.cls ≠ "java/lang/invoke/MethodHandle" ∧ y_WordCheck_accepts.cls ≠ "java/lang/invoke/VarHandle" ∧ (parseMethodDescriptor y_WordCheck_accepts.desc).map (fun d => d.parameters.length) = some 4 := by decide +kernel
abbrev b_D_has : ByteArray := prog_1_method_7_code
abbrev y_D_has : MethodName := ⟨R_D, "has", "(III)Z"⟩
set_option maxRecDepth 100000 in
theorem cd_D_has : Cond.code y_D_has b_D_has 4 (some .boolean) ∈ x_T := xmem3 132 rfl rfl
set_option maxRecDepth 100000 in
theorem im_D_has : Cond.instanceMethod y_D_has ∈ x_T := xmem3 130 rfl rfl
set_option maxRecDepth 100000 in
theorem sl_D_has : Cond.selects R_D y_D_has y_D_has ∈ x_T := xmem3 131 rfl rfl
set_option maxRecDepth 100000 in
theorem hv_D_has : y_D_has.cls = R_D ∧ y_D_has.cls ≠ "java/lang/invoke/MethodHandle" ∧ y_D_has.cls ≠ "java/lang/invoke/VarHandle" ∧ (parseMethodDescriptor y_D_has.desc).map (fun d => d.parameters.length) = some 3 := by decide +kernel
abbrev b_Machine_isKnown : ByteArray := prog_5_method_2_code
abbrev y_Machine_isKnown : MethodName := ⟨R_Machine, "isKnown", "()Z"⟩
set_option maxRecDepth 100000 in
theorem cd_Machine_isKnown : Cond.code y_Machine_isKnown b_Machine_isKnown 1 (some .boolean) ∈ x_T := xmem3 206 rfl rfl
set_option maxRecDepth 100000 in
theorem im_Machine_isKnown : Cond.instanceMethod y_Machine_isKnown ∈ x_T := xmem3 204 rfl rfl
set_option maxRecDepth 100000 in
theorem sl_Machine_isKnown : Cond.selects R_Machine y_Machine_isKnown y_Machine_isKnown ∈ x_T := xmem3 205 rfl rfl
set_option maxRecDepth 100000 in
theorem hv_Machine_isKnown : y_Machine_isKnown.cls = R_Machine ∧ y_Machine_isKnown.cls ≠ "java/lang/invoke/MethodHandle" ∧ y_Machine_isKnown.cls ≠ "java/lang/invoke/VarHandle" ∧ (parseMethodDescriptor y_Machine_isKnown.desc).map (fun d => d.parameters.length) = some 0 := by decide +kernel
abbrev b_Terms_isNullable : ByteArray := prog_8_method_4_code
abbrev y_Terms_isNullable : MethodName := ⟨R_Terms, "isNullable", "(I)Z"⟩
set_option maxRecDepth 100000 in
theorem cd_Terms_isNullable : Cond.code y_Terms_isNullable b_Terms_isNullable 2 (some .boolean) ∈ x_T := xmem3 211 rfl rfl
set_option maxRecDepth 100000 in
theorem im_Terms_isNullable : Cond.instanceMethod y_Terms_isNullable ∈ x_T := xmem3 209 rfl rfl
set_option maxRecDepth 100000 in
theorem sl_Terms_isNullable : Cond.selects R_Terms y_Terms_isNullable y_Terms_isNullable ∈ x_T := xmem3 210 rfl rfl
set_option maxRecDepth 100000 in
theorem hv_Terms_isNullable : y_Terms_isNullable.cls = R_Terms ∧ y_Terms_isNullable.cls ≠ "java/lang/invoke/MethodHandle" ∧ y_Terms_isNullable.cls ≠ "java/lang/invoke/VarHandle" ∧ (parseMethodDescriptor y_Terms_isNullable.desc).map (fun d => d.parameters.length) = some 1 := by decide +kernel
abbrev b_Machine_setAccepting : ByteArray := prog_5_method_9_code
abbrev y_Machine_setAccepting : MethodName := ⟨R_Machine, "setAccepting", "(IZ)V"⟩
set_option maxRecDepth 100000 in
theorem cd_Machine_setAccepting : Cond.code y_Machine_setAccepting b_Machine_setAccepting 3 none ∈ x_T := xmem3 215 rfl rfl
set_option maxRecDepth 100000 in
theorem im_Machine_setAccepting : Cond.instanceMethod y_Machine_setAccepting ∈ x_T := xmem3 213 rfl rfl
set_option maxRecDepth 100000 in
theorem sl_Machine_setAccepting : Cond.selects R_Machine y_Machine_setAccepting y_Machine_setAccepting ∈ x_T := xmem3 214 rfl rfl
set_option maxRecDepth 100000 in
theorem hv_Machine_setAccepting : y_Machine_setAccepting.cls = R_Machine ∧ y_Machine_setAccepting.cls ≠ "java/lang/invoke/MethodHandle" ∧ y_Machine_setAccepting.cls ≠ "java/lang/invoke/VarHandle" ∧ (parseMethodDescriptor y_Machine_setAccepting.desc).map (fun d => d.parameters.length) = some 2 := by decide +kernel
abbrev b_Explorer_placeOf : ByteArray := prog_3_method_5_code
abbrev y_Explorer_placeOf : MethodName := ⟨R_Explorer, "placeOf", "(IILDerivativeDesk$Terms;)I"⟩
set_option maxRecDepth 100000 in
theorem cd_Explorer_placeOf : Cond.code y_Explorer_placeOf b_Explorer_placeOf 5 (some .int) ∈ x_T := xmem3 220 rfl rfl
set_option maxRecDepth 100000 in
theorem im_Explorer_placeOf : Cond.instanceMethod y_Explorer_placeOf ∈ x_T := xmem3 219 rfl rfl
set_option maxRecDepth 100000 in
theorem sl_Explorer_placeOf : Cond.selects R_Explorer y_Explorer_placeOf y_Explorer_placeOf ∈ x_T := xmemS 28 rfl rfl
set_option maxRecDepth 100000 in
theorem hv_Explorer_placeOf : y_Explorer_placeOf.cls = R_Explorer ∧ y_Explorer_placeOf.cls ≠ "java/lang/invoke/MethodHandle" ∧ y_Explorer_placeOf.cls ≠ "java/lang/invoke/VarHandle" ∧ (parseMethodDescriptor y_Explorer_placeOf.desc).map (fun d => d.parameters.length) = some 3 := by decide +kernel
abbrev b_Machine_setNext : ByteArray := prog_5_method_7_code
abbrev y_Machine_setNext : MethodName := ⟨R_Machine, "setNext", "(III)V"⟩
set_option maxRecDepth 100000 in
theorem cd_Machine_setNext : Cond.code y_Machine_setNext b_Machine_setNext 4 none ∈ x_T := xmem3 226 rfl rfl
set_option maxRecDepth 100000 in
theorem im_Machine_setNext : Cond.instanceMethod y_Machine_setNext ∈ x_T := xmem3 224 rfl rfl
set_option maxRecDepth 100000 in
theorem sl_Machine_setNext : Cond.selects R_Machine y_Machine_setNext y_Machine_setNext ∈ x_T := xmem3 225 rfl rfl
set_option maxRecDepth 100000 in
theorem hv_Machine_setNext : y_Machine_setNext.cls = R_Machine ∧ y_Machine_setNext.cls ≠ "java/lang/invoke/MethodHandle" ∧ y_Machine_setNext.cls ≠ "java/lang/invoke/VarHandle" ∧ (parseMethodDescriptor y_Machine_setNext.desc).map (fun d => d.parameters.length) = some 3 := by decide +kernel
abbrev b_Explorer_machineOf : ByteArray := prog_3_method_4_code
abbrev y_Explorer_machineOf : MethodName := ⟨R_Explorer, "machineOf", "(ILDerivativeDesk$Terms;[I)LDerivativeDesk$Machine;"⟩
set_option maxRecDepth 100000 in
theorem cd_Explorer_machineOf : Cond.code y_Explorer_machineOf b_Explorer_machineOf 10 (some (.object "DerivativeDesk$Machine")) ∈ x_T := xmem3 202 rfl rfl
set_option maxRecDepth 100000 in
theorem im_Explorer_machineOf : Cond.instanceMethod y_Explorer_machineOf ∈ x_T := xmem3 200 rfl rfl
set_option maxRecDepth 100000 in
theorem sl_Explorer_machineOf : Cond.selects R_Explorer y_Explorer_machineOf y_Explorer_machineOf ∈ x_T := xmem3 201 rfl rfl
set_option maxRecDepth 100000 in
theorem hv_Explorer_machineOf : y_Explorer_machineOf.cls = R_Explorer ∧ y_Explorer_machineOf.cls ≠ "java/lang/invoke/MethodHandle" ∧ y_Explorer_machineOf.cls ≠ "java/lang/invoke/VarHandle" ∧ (parseMethodDescriptor y_Explorer_machineOf.desc).map (fun d => d.parameters.length) = some 3 := by decide +kernel
abbrev b_Machine_count : ByteArray := prog_5_method_4_code
abbrev y_Machine_count : MethodName := ⟨R_Machine, "count", "()I"⟩
set_option maxRecDepth 100000 in
theorem cd_Machine_count : Cond.code y_Machine_count b_Machine_count 1 (some .int) ∈ x_T := xmem3 230 rfl rfl
set_option maxRecDepth 100000 in
theorem im_Machine_count : Cond.instanceMethod y_Machine_count ∈ x_T := xmem3 228 rfl rfl
set_option maxRecDepth 100000 in
theorem sl_Machine_count : Cond.selects R_Machine y_Machine_count y_Machine_count ∈ x_T := xmem3 229 rfl rfl
set_option maxRecDepth 100000 in
theorem hv_Machine_count : y_Machine_count.cls = R_Machine ∧ y_Machine_count.cls ≠ "java/lang/invoke/MethodHandle" ∧ y_Machine_count.cls ≠ "java/lang/invoke/VarHandle" ∧ (parseMethodDescriptor y_Machine_count.desc).map (fun d => d.parameters.length) = some 0 := by decide +kernel
abbrev b_D_states : ByteArray := prog_1_method_8_code
abbrev y_D_states : MethodName := ⟨R_D, "states", "(I)I"⟩
set_option maxRecDepth 100000 in
theorem cd_D_states : Cond.code y_D_states b_D_states 2 (some .int) ∈ x_T := xmem3 198 rfl rfl
set_option maxRecDepth 100000 in
theorem im_D_states : Cond.instanceMethod y_D_states ∈ x_T := xmem3 196 rfl rfl
set_option maxRecDepth 100000 in
theorem sl_D_states : Cond.selects R_D y_D_states y_D_states ∈ x_T := xmem3 197 rfl rfl
set_option maxRecDepth 100000 in
theorem hv_D_states : y_D_states.cls = R_D ∧ y_D_states.cls ≠ "java/lang/invoke/MethodHandle" ∧ y_D_states.cls ≠ "java/lang/invoke/VarHandle" ∧ (parseMethodDescriptor y_D_states.desc).map (fun d => d.parameters.length) = some 1 := by decide +kernel
abbrev b_Machine_isTooLarge : ByteArray := prog_5_method_3_code
abbrev y_Machine_isTooLarge : MethodName := ⟨R_Machine, "isTooLarge", "()Z"⟩
set_option maxRecDepth 100000 in
theorem cd_Machine_isTooLarge : Cond.code y_Machine_isTooLarge b_Machine_isTooLarge 1 (some .boolean) ∈ x_T := xmem4 1 rfl rfl
set_option maxRecDepth 100000 in
theorem im_Machine_isTooLarge : Cond.instanceMethod y_Machine_isTooLarge ∈ x_T := xmem3 239 rfl rfl
set_option maxRecDepth 100000 in
theorem sl_Machine_isTooLarge : Cond.selects R_Machine y_Machine_isTooLarge y_Machine_isTooLarge ∈ x_T := xmem4 0 rfl rfl
set_option maxRecDepth 100000 in
theorem hv_Machine_isTooLarge : y_Machine_isTooLarge.cls = R_Machine ∧ y_Machine_isTooLarge.cls ≠ "java/lang/invoke/MethodHandle" ∧ y_Machine_isTooLarge.cls ≠ "java/lang/invoke/VarHandle" ∧ (parseMethodDescriptor y_Machine_isTooLarge.desc).map (fun d => d.parameters.length) = some 0 := by decide +kernel
abbrev b_Machine_isAccepting : ByteArray := prog_5_method_8_code
abbrev y_Machine_isAccepting : MethodName := ⟨R_Machine, "isAccepting", "(I)Z"⟩
set_option maxRecDepth 100000 in
theorem cd_Machine_isAccepting : Cond.code y_Machine_isAccepting b_Machine_isAccepting 2 (some .boolean) ∈ x_T := xmem4 14 rfl rfl
set_option maxRecDepth 100000 in
theorem im_Machine_isAccepting : Cond.instanceMethod y_Machine_isAccepting ∈ x_T := xmem4 12 rfl rfl
set_option maxRecDepth 100000 in
theorem sl_Machine_isAccepting : Cond.selects R_Machine y_Machine_isAccepting y_Machine_isAccepting ∈ x_T := xmem4 13 rfl rfl
set_option maxRecDepth 100000 in
theorem hv_Machine_isAccepting : y_Machine_isAccepting.cls = R_Machine ∧ y_Machine_isAccepting.cls ≠ "java/lang/invoke/MethodHandle" ∧ y_Machine_isAccepting.cls ≠ "java/lang/invoke/VarHandle" ∧ (parseMethodDescriptor y_Machine_isAccepting.desc).map (fun d => d.parameters.length) = some 1 := by decide +kernel
abbrev b_Splitter_splitByEmptyWord : ByteArray := prog_7_method_3_code
abbrev y_Splitter_splitByEmptyWord : MethodName := ⟨R_Splitter, "splitByEmptyWord", "(LDerivativeDesk$Machine;)I"⟩
set_option maxRecDepth 100000 in
theorem cd_Splitter_splitByEmptyWord : Cond.code y_Splitter_splitByEmptyWord b_Splitter_splitByEmptyWord 5 (some .int) ∈ x_T := xmem4 9 rfl rfl
set_option maxRecDepth 100000 in
theorem im_Splitter_splitByEmptyWord : Cond.instanceMethod y_Splitter_splitByEmptyWord ∈ x_T := xmem4 8 rfl rfl
set_option maxRecDepth 100000 in
theorem sl_Splitter_splitByEmptyWord : Cond.selects R_Splitter y_Splitter_splitByEmptyWord y_Splitter_splitByEmptyWord ∈ x_T := xmemS 29 rfl rfl
set_option maxRecDepth 100000 in
theorem hv_Splitter_splitByEmptyWord : y_Splitter_splitByEmptyWord.cls = R_Splitter ∧ y_Splitter_splitByEmptyWord.cls ≠ "java/lang/invoke/MethodHandle" ∧ y_Splitter_splitByEmptyWord.cls ≠ "java/lang/invoke/VarHandle" ∧ (parseMethodDescriptor y_Splitter_splitByEmptyWord.desc).map (fun d => d.parameters.length) = some 1 := by decide +kernel
abbrev b_Machine_next : ByteArray := prog_5_method_6_code
abbrev y_Machine_next : MethodName := ⟨R_Machine, "next", "(II)I"⟩
set_option maxRecDepth 100000 in
theorem cd_Machine_next : Cond.code y_Machine_next b_Machine_next 3 (some .int) ∈ x_T := xmem4 22 rfl rfl
set_option maxRecDepth 100000 in
theorem im_Machine_next : Cond.instanceMethod y_Machine_next ∈ x_T := xmem4 20 rfl rfl
set_option maxRecDepth 100000 in
theorem sl_Machine_next : Cond.selects R_Machine y_Machine_next y_Machine_next ∈ x_T := xmem4 21 rfl rfl
set_option maxRecDepth 100000 in
theorem hv_Machine_next : y_Machine_next.cls = R_Machine ∧ y_Machine_next.cls ≠ "java/lang/invoke/MethodHandle" ∧ y_Machine_next.cls ≠ "java/lang/invoke/VarHandle" ∧ (parseMethodDescriptor y_Machine_next.desc).map (fun d => d.parameters.length) = some 2 := by decide +kernel
abbrev b_Splitter_entryFor : ByteArray := prog_7_method_5_code
abbrev y_Splitter_entryFor : MethodName := ⟨R_Splitter, "entryFor", "(III)I"⟩
set_option maxRecDepth 100000 in
theorem cd_Splitter_entryFor : Cond.code y_Splitter_entryFor b_Splitter_entryFor 6 (some .int) ∈ x_T := xmem4 26 rfl rfl
set_option maxRecDepth 100000 in
theorem im_Splitter_entryFor : Cond.instanceMethod y_Splitter_entryFor ∈ x_T := xmem4 25 rfl rfl
set_option maxRecDepth 100000 in
theorem sl_Splitter_entryFor : Cond.selects R_Splitter y_Splitter_entryFor y_Splitter_entryFor ∈ x_T := xmemS 31 rfl rfl
set_option maxRecDepth 100000 in
theorem hv_Splitter_entryFor : y_Splitter_entryFor.cls = R_Splitter ∧ y_Splitter_entryFor.cls ≠ "java/lang/invoke/MethodHandle" ∧ y_Splitter_entryFor.cls ≠ "java/lang/invoke/VarHandle" ∧ (parseMethodDescriptor y_Splitter_entryFor.desc).map (fun d => d.parameters.length) = some 3 := by decide +kernel
abbrev b_Splitter_splitByLetter : ByteArray := prog_7_method_4_code
abbrev y_Splitter_splitByLetter : MethodName := ⟨R_Splitter, "splitByLetter", "(LDerivativeDesk$Machine;II)I"⟩
set_option maxRecDepth 100000 in
theorem cd_Splitter_splitByLetter : Cond.code y_Splitter_splitByLetter b_Splitter_splitByLetter 8 (some .int) ∈ x_T := xmem4 18 rfl rfl
set_option maxRecDepth 100000 in
theorem im_Splitter_splitByLetter : Cond.instanceMethod y_Splitter_splitByLetter ∈ x_T := xmem4 17 rfl rfl
set_option maxRecDepth 100000 in
theorem sl_Splitter_splitByLetter : Cond.selects R_Splitter y_Splitter_splitByLetter y_Splitter_splitByLetter ∈ x_T := xmemS 30 rfl rfl
set_option maxRecDepth 100000 in
theorem hv_Splitter_splitByLetter : y_Splitter_splitByLetter.cls = R_Splitter ∧ y_Splitter_splitByLetter.cls ≠ "java/lang/invoke/MethodHandle" ∧ y_Splitter_splitByLetter.cls ≠ "java/lang/invoke/VarHandle" ∧ (parseMethodDescriptor y_Splitter_splitByLetter.desc).map (fun d => d.parameters.length) = some 3 := by decide +kernel
abbrev b_Splitter_countParts : ByteArray := prog_7_method_2_code
abbrev y_Splitter_countParts : MethodName := ⟨R_Splitter, "countParts", "(LDerivativeDesk$Machine;)I"⟩
set_option maxRecDepth 100000 in
theorem cd_Splitter_countParts : Cond.code y_Splitter_countParts b_Splitter_countParts 6 (some .int) ∈ x_T := xmem4 5 rfl rfl
set_option maxRecDepth 100000 in
theorem im_Splitter_countParts : Cond.instanceMethod y_Splitter_countParts ∈ x_T := xmem4 3 rfl rfl
set_option maxRecDepth 100000 in
theorem sl_Splitter_countParts : Cond.selects R_Splitter y_Splitter_countParts y_Splitter_countParts ∈ x_T := xmem4 4 rfl rfl
set_option maxRecDepth 100000 in
theorem hv_Splitter_countParts : y_Splitter_countParts.cls = R_Splitter ∧ y_Splitter_countParts.cls ≠ "java/lang/invoke/MethodHandle" ∧ y_Splitter_countParts.cls ≠ "java/lang/invoke/VarHandle" ∧ (parseMethodDescriptor y_Splitter_countParts.desc).map (fun d => d.parameters.length) = some 1 := by decide +kernel
abbrev b_D_languages : ByteArray := prog_1_method_9_code
abbrev y_D_languages : MethodName := ⟨R_D, "languages", "(I)I"⟩
set_option maxRecDepth 100000 in
theorem cd_D_languages : Cond.code y_D_languages b_D_languages 3 (some .int) ∈ x_T := xmem3 237 rfl rfl
set_option maxRecDepth 100000 in
theorem im_D_languages : Cond.instanceMethod y_D_languages ∈ x_T := xmem3 235 rfl rfl
set_option maxRecDepth 100000 in
theorem sl_D_languages : Cond.selects R_D y_D_languages y_D_languages ∈ x_T := xmem3 236 rfl rfl
set_option maxRecDepth 100000 in
theorem hv_D_languages : y_D_languages.cls = R_D ∧ y_D_languages.cls ≠ "java/lang/invoke/MethodHandle" ∧ y_D_languages.cls ≠ "java/lang/invoke/VarHandle" ∧ (parseMethodDescriptor y_D_languages.desc).map (fun d => d.parameters.length) = some 1 := by decide +kernel
abbrev b_Comparison_forget : ByteArray := prog_2_method_2_code
abbrev y_Comparison_forget : MethodName := ⟨R_Comparison, "forget", "()V"⟩
set_option maxRecDepth 100000 in
theorem cd_Comparison_forget : Cond.code y_Comparison_forget b_Comparison_forget 1 none ∈ x_T := xmem4 38 rfl rfl
set_option maxRecDepth 100000 in
theorem im_Comparison_forget : Cond.instanceMethod y_Comparison_forget ∈ x_T := xmem4 36 rfl rfl
set_option maxRecDepth 100000 in
theorem sl_Comparison_forget : Cond.selects R_Comparison y_Comparison_forget y_Comparison_forget ∈ x_T := xmem4 37 rfl rfl
set_option maxRecDepth 100000 in
theorem hv_Comparison_forget : y_Comparison_forget.cls = R_Comparison ∧ y_Comparison_forget.cls ≠ "java/lang/invoke/MethodHandle" ∧ y_Comparison_forget.cls ≠ "java/lang/invoke/VarHandle" ∧ (parseMethodDescriptor y_Comparison_forget.desc).map (fun d => d.parameters.length) = some 0 := by decide +kernel
abbrev b_Comparison_begin : ByteArray := prog_2_method_6_code
abbrev y_Comparison_begin : MethodName := ⟨R_Comparison, "begin", "(I)V"⟩
set_option maxRecDepth 100000 in
theorem cd_Comparison_begin : Cond.code y_Comparison_begin b_Comparison_begin 3 none ∈ x_T := xmem4 47 rfl rfl
set_option maxRecDepth 100000 in
theorem im_Comparison_begin : Cond.instanceMethod y_Comparison_begin ∈ x_T := xmem4 46 rfl rfl
set_option maxRecDepth 100000 in
theorem sl_Comparison_begin : Cond.selects R_Comparison y_Comparison_begin y_Comparison_begin ∈ x_T := xmemS 32 rfl rfl
set_option maxRecDepth 100000 in
theorem hv_Comparison_begin : y_Comparison_begin.cls = R_Comparison ∧ y_Comparison_begin.cls ≠ "java/lang/invoke/MethodHandle" ∧ y_Comparison_begin.cls ≠ "java/lang/invoke/VarHandle" ∧ (parseMethodDescriptor y_Comparison_begin.desc).map (fun d => d.parameters.length) = some 1 := by decide +kernel
abbrev b_Comparison_leaderOf : ByteArray := prog_2_method_8_code
abbrev y_Comparison_leaderOf : MethodName := ⟨R_Comparison, "leaderOf", "(I)I"⟩
set_option maxRecDepth 100000 in
theorem cd_Comparison_leaderOf : Cond.code y_Comparison_leaderOf b_Comparison_leaderOf 4 (some .int) ∈ x_T := xmem4 55 rfl rfl
set_option maxRecDepth 100000 in
theorem im_Comparison_leaderOf : Cond.instanceMethod y_Comparison_leaderOf ∈ x_T := xmem4 54 rfl rfl
set_option maxRecDepth 100000 in
theorem sl_Comparison_leaderOf : Cond.selects R_Comparison y_Comparison_leaderOf y_Comparison_leaderOf ∈ x_T := xmemS 34 rfl rfl
set_option maxRecDepth 100000 in
theorem hv_Comparison_leaderOf : y_Comparison_leaderOf.cls = R_Comparison ∧ y_Comparison_leaderOf.cls ≠ "java/lang/invoke/MethodHandle" ∧ y_Comparison_leaderOf.cls ≠ "java/lang/invoke/VarHandle" ∧ (parseMethodDescriptor y_Comparison_leaderOf.desc).map (fun d => d.parameters.length) = some 1 := by decide +kernel
abbrev b_Comparison_isNewPair : ByteArray := prog_2_method_7_code
abbrev y_Comparison_isNewPair : MethodName := ⟨R_Comparison, "isNewPair", "(III)Z"⟩
set_option maxRecDepth 100000 in
theorem cd_Comparison_isNewPair : Cond.code y_Comparison_isNewPair b_Comparison_isNewPair 6 (some .boolean) ∈ x_T := xmem4 51 rfl rfl
set_option maxRecDepth 100000 in
theorem im_Comparison_isNewPair : Cond.instanceMethod y_Comparison_isNewPair ∈ x_T := xmem4 50 rfl rfl
set_option maxRecDepth 100000 in
theorem sl_Comparison_isNewPair : Cond.selects R_Comparison y_Comparison_isNewPair y_Comparison_isNewPair ∈ x_T := xmemS 33 rfl rfl
set_option maxRecDepth 100000 in
theorem hv_Comparison_isNewPair : y_Comparison_isNewPair.cls = R_Comparison ∧ y_Comparison_isNewPair.cls ≠ "java/lang/invoke/MethodHandle" ∧ y_Comparison_isNewPair.cls ≠ "java/lang/invoke/VarHandle" ∧ (parseMethodDescriptor y_Comparison_isNewPair.desc).map (fun d => d.parameters.length) = some 3 := by decide +kernel
abbrev b_Comparison_keepWordTo : ByteArray := prog_2_method_10_code
abbrev y_Comparison_keepWordTo : MethodName := ⟨R_Comparison, "keepWordTo", "(I)V"⟩
set_option maxRecDepth 100000 in
theorem cd_Comparison_keepWordTo : Cond.code y_Comparison_keepWordTo b_Comparison_keepWordTo 4 none ∈ x_T := xmem4 64 rfl rfl
set_option maxRecDepth 100000 in
theorem im_Comparison_keepWordTo : Cond.instanceMethod y_Comparison_keepWordTo ∈ x_T := xmem4 63 rfl rfl
set_option maxRecDepth 100000 in
theorem sl_Comparison_keepWordTo : Cond.selects R_Comparison y_Comparison_keepWordTo y_Comparison_keepWordTo ∈ x_T := xmemS 36 rfl rfl
set_option maxRecDepth 100000 in
theorem hv_Comparison_keepWordTo : y_Comparison_keepWordTo.cls = R_Comparison ∧ y_Comparison_keepWordTo.cls ≠ "java/lang/invoke/MethodHandle" ∧ y_Comparison_keepWordTo.cls ≠ "java/lang/invoke/VarHandle" ∧ (parseMethodDescriptor y_Comparison_keepWordTo.desc).map (fun d => d.parameters.length) = some 1 := by decide +kernel
abbrev b_Comparison_isSplit : ByteArray := prog_2_method_9_code
abbrev y_Comparison_isSplit : MethodName := ⟨R_Comparison, "isSplit", "(LDerivativeDesk$Machine;LDerivativeDesk$Machine;II)Z"⟩
set_option maxRecDepth 100000 in
theorem cd_Comparison_isSplit : Cond.code y_Comparison_isSplit b_Comparison_isSplit 6 (some .boolean) ∈ x_T := xmem4 59 rfl rfl
set_option maxRecDepth 100000 in
theorem im_Comparison_isSplit : Cond.instanceMethod y_Comparison_isSplit ∈ x_T := xmem4 58 rfl rfl
set_option maxRecDepth 100000 in
theorem sl_Comparison_isSplit : Cond.selects R_Comparison y_Comparison_isSplit y_Comparison_isSplit ∈ x_T := xmemS 35 rfl rfl
set_option maxRecDepth 100000 in
theorem hv_Comparison_isSplit : y_Comparison_isSplit.cls = R_Comparison ∧ y_Comparison_isSplit.cls ≠ "java/lang/invoke/MethodHandle" ∧ y_Comparison_isSplit.cls ≠ "java/lang/invoke/VarHandle" ∧ (parseMethodDescriptor y_Comparison_isSplit.desc).map (fun d => d.parameters.length) = some 4 := by decide +kernel
abbrev b_Comparison_differ : ByteArray := prog_2_method_5_code
abbrev y_Comparison_differ : MethodName := ⟨R_Comparison, "differ", "(LDerivativeDesk$Machine;LDerivativeDesk$Machine;)Z"⟩
set_option maxRecDepth 100000 in
theorem cd_Comparison_differ : Cond.code y_Comparison_differ b_Comparison_differ 7 (some .boolean) ∈ x_T := xmem4 42 rfl rfl
set_option maxRecDepth 100000 in
theorem im_Comparison_differ : Cond.instanceMethod y_Comparison_differ ∈ x_T := xmem4 40 rfl rfl
set_option maxRecDepth 100000 in
theorem sl_Comparison_differ : Cond.selects R_Comparison y_Comparison_differ y_Comparison_differ ∈ x_T := xmem4 41 rfl rfl
set_option maxRecDepth 100000 in
theorem hv_Comparison_differ : y_Comparison_differ.cls = R_Comparison ∧ y_Comparison_differ.cls ≠ "java/lang/invoke/MethodHandle" ∧ y_Comparison_differ.cls ≠ "java/lang/invoke/VarHandle" ∧ (parseMethodDescriptor y_Comparison_differ.desc).map (fun d => d.parameters.length) = some 2 := by decide +kernel
abbrev b_D_equal : ByteArray := prog_1_method_10_code
abbrev y_D_equal : MethodName := ⟨R_D, "equal", "(II)I"⟩
set_option maxRecDepth 100000 in
theorem cd_D_equal : Cond.code y_D_equal b_D_equal 5 (some .int) ∈ x_T := xmem4 34 rfl rfl
set_option maxRecDepth 100000 in
theorem im_D_equal : Cond.instanceMethod y_D_equal ∈ x_T := xmem4 32 rfl rfl
set_option maxRecDepth 100000 in
theorem sl_D_equal : Cond.selects R_D y_D_equal y_D_equal ∈ x_T := xmem4 33 rfl rfl
set_option maxRecDepth 100000 in
theorem hv_D_equal : y_D_equal.cls = R_D ∧ y_D_equal.cls ≠ "java/lang/invoke/MethodHandle" ∧ y_D_equal.cls ≠ "java/lang/invoke/VarHandle" ∧ (parseMethodDescriptor y_D_equal.desc).map (fun d => d.parameters.length) = some 2 := by decide +kernel
abbrev b_Comparison_length : ByteArray := prog_2_method_3_code
abbrev y_Comparison_length : MethodName := ⟨R_Comparison, "length", "()I"⟩
set_option maxRecDepth 100000 in
theorem cd_Comparison_length : Cond.code y_Comparison_length b_Comparison_length 1 (some .int) ∈ x_T := xmem2 51 rfl rfl
set_option maxRecDepth 100000 in
theorem im_Comparison_length : Cond.instanceMethod y_Comparison_length ∈ x_T := xmem2 49 rfl rfl
set_option maxRecDepth 100000 in
theorem sl_Comparison_length : Cond.selects R_Comparison y_Comparison_length y_Comparison_length ∈ x_T := xmem2 50 rfl rfl
set_option maxRecDepth 100000 in
theorem hv_Comparison_length : y_Comparison_length.cls = R_Comparison ∧ y_Comparison_length.cls ≠ "java/lang/invoke/MethodHandle" ∧ y_Comparison_length.cls ≠ "java/lang/invoke/VarHandle" ∧ (parseMethodDescriptor y_Comparison_length.desc).map (fun d => d.parameters.length) = some 0 := by decide +kernel
abbrev b_Comparison_letter : ByteArray := prog_2_method_4_code
abbrev y_Comparison_letter : MethodName := ⟨R_Comparison, "letter", "(I)I"⟩
set_option maxRecDepth 100000 in
theorem cd_Comparison_letter : Cond.code y_Comparison_letter b_Comparison_letter 2 (some .int) ∈ x_T := xmem2 55 rfl rfl
set_option maxRecDepth 100000 in
theorem im_Comparison_letter : Cond.instanceMethod y_Comparison_letter ∈ x_T := xmem2 53 rfl rfl
set_option maxRecDepth 100000 in
theorem sl_Comparison_letter : Cond.selects R_Comparison y_Comparison_letter y_Comparison_letter ∈ x_T := xmem2 54 rfl rfl
set_option maxRecDepth 100000 in
theorem hv_Comparison_letter : y_Comparison_letter.cls = R_Comparison ∧ y_Comparison_letter.cls ≠ "java/lang/invoke/MethodHandle" ∧ y_Comparison_letter.cls ≠ "java/lang/invoke/VarHandle" ∧ (parseMethodDescriptor y_Comparison_letter.desc).map (fun d => d.parameters.length) = some 1 := by decide +kernel
abbrev b_D_witness : ByteArray := prog_1_method_11_code
abbrev y_D_witness : MethodName := ⟨R_D, "witness", "(I)I"⟩
set_option maxRecDepth 100000 in
theorem cd_D_witness : Cond.code y_D_witness b_D_witness 2 (some .int) ∈ x_T := xmem2 47 rfl rfl
set_option maxRecDepth 100000 in
theorem im_D_witness : Cond.instanceMethod y_D_witness ∈ x_T := xmem2 45 rfl rfl
set_option maxRecDepth 100000 in
theorem sl_D_witness : Cond.selects R_D y_D_witness y_D_witness ∈ x_T := xmem2 46 rfl rfl
set_option maxRecDepth 100000 in
theorem hv_D_witness : y_D_witness.cls = R_D ∧ y_D_witness.cls ≠ "java/lang/invoke/MethodHandle" ∧ y_D_witness.cls ≠ "java/lang/invoke/VarHandle" ∧ (parseMethodDescriptor y_D_witness.desc).map (fun d => d.parameters.length) = some 1 := by decide +kernel
abbrev b_WordCounts_fill : ByteArray := prog_10_method_3_code
abbrev y_WordCounts_fill : MethodName := ⟨R_WordCounts, "fill", "(LDerivativeDesk$Machine;I)V"⟩
set_option maxRecDepth 100000 in
theorem cd_WordCounts_fill : Cond.code y_WordCounts_fill b_WordCounts_fill 8 none ∈ x_T := xmem4 81 rfl rfl
set_option maxRecDepth 100000 in
theorem im_WordCounts_fill : Cond.instanceMethod y_WordCounts_fill ∈ x_T := xmem4 80 rfl rfl
set_option maxRecDepth 100000 in
theorem sl_WordCounts_fill : Cond.selects R_WordCounts y_WordCounts_fill y_WordCounts_fill ∈ x_T := xmemS 37 rfl rfl
set_option maxRecDepth 100000 in
theorem hv_WordCounts_fill : y_WordCounts_fill.cls = R_WordCounts ∧ y_WordCounts_fill.cls ≠ "java/lang/invoke/MethodHandle" ∧ y_WordCounts_fill.cls ≠ "java/lang/invoke/VarHandle" ∧ (parseMethodDescriptor y_WordCounts_fill.desc).map (fun d => d.parameters.length) = some 2 := by decide +kernel
abbrev b_WordCounts_ofLength : ByteArray := prog_10_method_2_code
abbrev y_WordCounts_ofLength : MethodName := ⟨R_WordCounts, "ofLength", "(LDerivativeDesk$Machine;I)J"⟩
set_option maxRecDepth 100000 in
theorem cd_WordCounts_ofLength : Cond.code y_WordCounts_ofLength b_WordCounts_ofLength 3 (some .long) ∈ x_T := xmem4 77 rfl rfl
set_option maxRecDepth 100000 in
theorem im_WordCounts_ofLength : Cond.instanceMethod y_WordCounts_ofLength ∈ x_T := xmem4 75 rfl rfl
set_option maxRecDepth 100000 in
theorem sl_WordCounts_ofLength : Cond.selects R_WordCounts y_WordCounts_ofLength y_WordCounts_ofLength ∈ x_T := xmem4 76 rfl rfl
set_option maxRecDepth 100000 in
theorem hv_WordCounts_ofLength : y_WordCounts_ofLength.cls = R_WordCounts ∧ y_WordCounts_ofLength.cls ≠ "java/lang/invoke/MethodHandle" ∧ y_WordCounts_ofLength.cls ≠ "java/lang/invoke/VarHandle" ∧ (parseMethodDescriptor y_WordCounts_ofLength.desc).map (fun d => d.parameters.length) = some 2 := by decide +kernel
abbrev b_D_words : ByteArray := prog_1_method_12_code
abbrev y_D_words : MethodName := ⟨R_D, "words", "(II)J"⟩
set_option maxRecDepth 100000 in
theorem cd_D_words : Cond.code y_D_words b_D_words 4 (some .long) ∈ x_T := xmem4 72 rfl rfl
set_option maxRecDepth 100000 in
theorem im_D_words : Cond.instanceMethod y_D_words ∈ x_T := xmem4 70 rfl rfl
set_option maxRecDepth 100000 in
theorem sl_D_words : Cond.selects R_D y_D_words y_D_words ∈ x_T := xmem4 71 rfl rfl
set_option maxRecDepth 100000 in
theorem hv_D_words : y_D_words.cls = R_D ∧ y_D_words.cls ≠ "java/lang/invoke/MethodHandle" ∧ y_D_words.cls ≠ "java/lang/invoke/VarHandle" ∧ (parseMethodDescriptor y_D_words.desc).map (fun d => d.parameters.length) = some 2 := by decide +kernel
abbrev b_WordCounts_stepBack : ByteArray := prog_10_method_7_code
abbrev y_WordCounts_stepBack : MethodName := ⟨R_WordCounts, "stepBack", "(LDerivativeDesk$Machine;)Z"⟩
set_option maxRecDepth 100000 in
theorem cd_WordCounts_stepBack : Cond.code y_WordCounts_stepBack b_WordCounts_stepBack 6 (some .boolean) ∈ x_T := xmem4 99 rfl rfl
set_option maxRecDepth 100000 in
theorem im_WordCounts_stepBack : Cond.instanceMethod y_WordCounts_stepBack ∈ x_T := xmem4 98 rfl rfl
set_option maxRecDepth 100000 in
theorem sl_WordCounts_stepBack : Cond.selects R_WordCounts y_WordCounts_stepBack y_WordCounts_stepBack ∈ x_T := xmemS 38 rfl rfl
set_option maxRecDepth 100000 in
theorem hv_WordCounts_stepBack : y_WordCounts_stepBack.cls = R_WordCounts ∧ y_WordCounts_stepBack.cls ≠ "java/lang/invoke/MethodHandle" ∧ y_WordCounts_stepBack.cls ≠ "java/lang/invoke/VarHandle" ∧ (parseMethodDescriptor y_WordCounts_stepBack.desc).map (fun d => d.parameters.length) = some 1 := by decide +kernel
abbrev b_WordCounts_isFinite : ByteArray := prog_10_method_6_code
abbrev y_WordCounts_isFinite : MethodName := ⟨R_WordCounts, "isFinite", "(LDerivativeDesk$Machine;)Z"⟩
set_option maxRecDepth 100000 in
theorem cd_WordCounts_isFinite : Cond.code y_WordCounts_isFinite b_WordCounts_isFinite 5 (some .boolean) ∈ x_T := xmem4 95 rfl rfl
set_option maxRecDepth 100000 in
theorem im_WordCounts_isFinite : Cond.instanceMethod y_WordCounts_isFinite ∈ x_T := xmem4 93 rfl rfl
set_option maxRecDepth 100000 in
theorem sl_WordCounts_isFinite : Cond.selects R_WordCounts y_WordCounts_isFinite y_WordCounts_isFinite ∈ x_T := xmem4 94 rfl rfl
set_option maxRecDepth 100000 in
theorem hv_WordCounts_isFinite : y_WordCounts_isFinite.cls = R_WordCounts ∧ y_WordCounts_isFinite.cls ≠ "java/lang/invoke/MethodHandle" ∧ y_WordCounts_isFinite.cls ≠ "java/lang/invoke/VarHandle" ∧ (parseMethodDescriptor y_WordCounts_isFinite.desc).map (fun d => d.parameters.length) = some 1 := by decide +kernel
abbrev b_D_ends : ByteArray := prog_1_method_13_code
abbrev y_D_ends : MethodName := ⟨R_D, "ends", "(I)I"⟩
set_option maxRecDepth 100000 in
theorem cd_D_ends : Cond.code y_D_ends b_D_ends 3 (some .int) ∈ x_T := xmem4 91 rfl rfl
set_option maxRecDepth 100000 in
theorem im_D_ends : Cond.instanceMethod y_D_ends ∈ x_T := xmem4 89 rfl rfl
set_option maxRecDepth 100000 in
theorem sl_D_ends : Cond.selects R_D y_D_ends y_D_ends ∈ x_T := xmem4 90 rfl rfl
set_option maxRecDepth 100000 in
theorem hv_D_ends : y_D_ends.cls = R_D ∧ y_D_ends.cls ≠ "java/lang/invoke/MethodHandle" ∧ y_D_ends.cls ≠ "java/lang/invoke/VarHandle" ∧ (parseMethodDescriptor y_D_ends.desc).map (fun d => d.parameters.length) = some 1 := by decide +kernel
abbrev b_WordCounts_wordOfLength : ByteArray := prog_10_method_5_code
abbrev y_WordCounts_wordOfLength : MethodName := ⟨R_WordCounts, "wordOfLength", "(LDerivativeDesk$Machine;IJ)J"⟩
set_option maxRecDepth 100000 in
theorem cd_WordCounts_wordOfLength : Cond.code y_WordCounts_wordOfLength b_WordCounts_wordOfLength 14 (some .long) ∈ x_T := xmem4 116 rfl rfl
set_option maxRecDepth 100000 in
theorem im_WordCounts_wordOfLength : Cond.instanceMethod y_WordCounts_wordOfLength ∈ x_T := xmem4 115 rfl rfl
set_option maxRecDepth 100000 in
theorem sl_WordCounts_wordOfLength : Cond.selects R_WordCounts y_WordCounts_wordOfLength y_WordCounts_wordOfLength ∈ x_T := xmemS 39 rfl rfl
set_option maxRecDepth 100000 in
theorem hv_WordCounts_wordOfLength : y_WordCounts_wordOfLength.cls = R_WordCounts ∧ y_WordCounts_wordOfLength.cls ≠ "java/lang/invoke/MethodHandle" ∧ y_WordCounts_wordOfLength.cls ≠ "java/lang/invoke/VarHandle" ∧ (parseMethodDescriptor y_WordCounts_wordOfLength.desc).map (fun d => d.parameters.length) = some 3 := by decide +kernel
abbrev b_WordCounts_wordAt : ByteArray := prog_10_method_4_code
abbrev y_WordCounts_wordAt : MethodName := ⟨R_WordCounts, "wordAt", "(LDerivativeDesk$Machine;J)J"⟩
set_option maxRecDepth 100000 in
theorem cd_WordCounts_wordAt : Cond.code y_WordCounts_wordAt b_WordCounts_wordAt 9 (some .long) ∈ x_T := xmem4 110 rfl rfl
set_option maxRecDepth 100000 in
theorem im_WordCounts_wordAt : Cond.instanceMethod y_WordCounts_wordAt ∈ x_T := xmem4 108 rfl rfl
set_option maxRecDepth 100000 in
theorem sl_WordCounts_wordAt : Cond.selects R_WordCounts y_WordCounts_wordAt y_WordCounts_wordAt ∈ x_T := xmem4 109 rfl rfl
set_option maxRecDepth 100000 in
theorem hv_WordCounts_wordAt : y_WordCounts_wordAt.cls = R_WordCounts ∧ y_WordCounts_wordAt.cls ≠ "java/lang/invoke/MethodHandle" ∧ y_WordCounts_wordAt.cls ≠ "java/lang/invoke/VarHandle" ∧ (parseMethodDescriptor y_WordCounts_wordAt.desc).map (fun d => d.parameters.length) = some 2 := by decide +kernel
abbrev b_D_find : ByteArray := prog_1_method_14_code
abbrev y_D_find : MethodName := ⟨R_D, "find", "(IJ)J"⟩
set_option maxRecDepth 100000 in
theorem cd_D_find : Cond.code y_D_find b_D_find 5 (some .long) ∈ x_T := xmem4 106 rfl rfl
set_option maxRecDepth 100000 in
theorem im_D_find : Cond.instanceMethod y_D_find ∈ x_T := xmem4 104 rfl rfl
set_option maxRecDepth 100000 in
theorem sl_D_find : Cond.selects R_D y_D_find y_D_find ∈ x_T := xmem4 105 rfl rfl
set_option maxRecDepth 100000 in
theorem hv_D_find : y_D_find.cls = R_D ∧ y_D_find.cls ≠ "java/lang/invoke/MethodHandle" ∧ y_D_find.cls ≠ "java/lang/invoke/VarHandle" ∧ (parseMethodDescriptor y_D_find.desc).map (fun d => d.parameters.length) = some 2 := by decide +kernel
abbrev b_D_look : ByteArray := prog_1_method_15_code
abbrev y_D_look : MethodName := ⟨R_D, "look", "(II)I"⟩
set_option maxRecDepth 100000 in
theorem cd_D_look : Cond.code y_D_look b_D_look 4 (some .int) ∈ x_T := xmem4 123 rfl rfl
set_option maxRecDepth 100000 in
theorem im_D_look : Cond.instanceMethod y_D_look ∈ x_T := xmem4 121 rfl rfl
set_option maxRecDepth 100000 in
theorem sl_D_look : Cond.selects R_D y_D_look y_D_look ∈ x_T := xmem4 122 rfl rfl
set_option maxRecDepth 100000 in
theorem hv_D_look : y_D_look.cls = R_D ∧ y_D_look.cls ≠ "java/lang/invoke/MethodHandle" ∧ y_D_look.cls ≠ "java/lang/invoke/VarHandle" ∧ (parseMethodDescriptor y_D_look.desc).map (fun d => d.parameters.length) = some 2 := by decide +kernel
abbrev b_Mo_thrown : ByteArray := prog_12_method_2_code
abbrev y_Mo_thrown : MethodName := ⟨R_Mo, "thrown", "()I"⟩
set_option maxRecDepth 100000 in
theorem cd_Mo_thrown : Cond.code y_Mo_thrown b_Mo_thrown 1 (some .int) ∈ x_T := xmem4 229 rfl rfl
set_option maxRecDepth 100000 in
theorem im_Mo_thrown : Cond.instanceMethod y_Mo_thrown ∈ x_T := xmem4 227 rfl rfl
set_option maxRecDepth 100000 in
theorem sl_Mo_thrown : Cond.selects R_Mo y_Mo_thrown y_Mo_thrown ∈ x_T := xmem4 228 rfl rfl
set_option maxRecDepth 100000 in
theorem hv_Mo_thrown : y_Mo_thrown.cls = R_Mo ∧ y_Mo_thrown.cls ≠ "java/lang/invoke/MethodHandle" ∧ y_Mo_thrown.cls ≠ "java/lang/invoke/VarHandle" ∧ (parseMethodDescriptor y_Mo_thrown.desc).map (fun d => d.parameters.length) = some 0 := by decide +kernel
abbrev b_Mo_isSlot : ByteArray := prog_12_method_4_code
abbrev y_Mo_isSlot : MethodName := ⟨R_Mo, "isSlot", "(I)Z"⟩
set_option maxRecDepth 100000 in
theorem cd_Mo_isSlot : Cond.code y_Mo_isSlot b_Mo_isSlot 1 (some .boolean) ∈ x_T := xmem4 236 rfl rfl
set_option maxRecDepth 100000 in
theorem st_Mo_isSlot : Cond.static y_Mo_isSlot ∈ x_T := xmem4 235 rfl rfl
set_option maxRecDepth 100000 in
theorem hs_Mo_isSlot : y_Mo_isSlot.cls ≠ "java/lang/invoke/MethodHandle" ∧ y_Mo_isSlot.cls ≠ "java/lang/invoke/VarHandle" ∧ (parseMethodDescriptor y_Mo_isSlot.desc).map (fun d => d.parameters.length) = some 1 := by decide +kernel
abbrev b_Mo_fails : ByteArray := prog_12_method_3_code
abbrev y_Mo_fails : MethodName := ⟨R_Mo, "fails", "(ZZ)Z"⟩
set_option maxRecDepth 100000 in
theorem cd_Mo_fails : Cond.code y_Mo_fails b_Mo_fails 3 (some .boolean) ∈ x_T := xmem5 0 rfl rfl
set_option maxRecDepth 100000 in
theorem im_Mo_fails : Cond.instanceMethod y_Mo_fails ∈ x_T := xmem4 239 rfl rfl
set_option maxRecDepth 100000 in
theorem sl_Mo_fails : Cond.selects R_Mo y_Mo_fails y_Mo_fails ∈ x_T := xmemS 40 rfl rfl
set_option maxRecDepth 100000 in
theorem hv_Mo_fails : y_Mo_fails.cls = R_Mo ∧ y_Mo_fails.cls ≠ "java/lang/invoke/MethodHandle" ∧ y_Mo_fails.cls ≠ "java/lang/invoke/VarHandle" ∧ (parseMethodDescriptor y_Mo_fails.desc).map (fun d => d.parameters.length) = some 2 := by decide +kernel
abbrev b_Mo_keep : ByteArray := prog_12_method_21_code
abbrev y_Mo_keep : MethodName := ⟨R_Mo, "keep", "(II)I"⟩
set_option maxRecDepth 100000 in
theorem cd_Mo_keep : Cond.code y_Mo_keep b_Mo_keep 4 (some .int) ∈ x_T := xmem5 4 rfl rfl
set_option maxRecDepth 100000 in
theorem im_Mo_keep : Cond.instanceMethod y_Mo_keep ∈ x_T := xmem5 3 rfl rfl
set_option maxRecDepth 100000 in
theorem sl_Mo_keep : Cond.selects R_Mo y_Mo_keep y_Mo_keep ∈ x_T := xmemS 41 rfl rfl
set_option maxRecDepth 100000 in
theorem hv_Mo_keep : y_Mo_keep.cls = R_Mo ∧ y_Mo_keep.cls ≠ "java/lang/invoke/MethodHandle" ∧ y_Mo_keep.cls ≠ "java/lang/invoke/VarHandle" ∧ (parseMethodDescriptor y_Mo_keep.desc).map (fun d => d.parameters.length) = some 2 := by decide +kernel
abbrev b_Mo_letters : ByteArray := prog_12_method_22_code
abbrev y_Mo_letters : MethodName := ⟨R_Mo, "letters", "(II)I"⟩
set_option maxRecDepth 100000 in
theorem cd_Mo_letters : Cond.code y_Mo_letters b_Mo_letters 4 (some .int) ∈ x_T := xmem4 233 rfl rfl
set_option maxRecDepth 100000 in
theorem im_Mo_letters : Cond.instanceMethod y_Mo_letters ∈ x_T := xmem4 231 rfl rfl
set_option maxRecDepth 100000 in
theorem sl_Mo_letters : Cond.selects R_Mo y_Mo_letters y_Mo_letters ∈ x_T := xmem4 232 rfl rfl
set_option maxRecDepth 100000 in
theorem hv_Mo_letters : y_Mo_letters.cls = R_Mo ∧ y_Mo_letters.cls ≠ "java/lang/invoke/MethodHandle" ∧ y_Mo_letters.cls ≠ "java/lang/invoke/VarHandle" ∧ (parseMethodDescriptor y_Mo_letters.desc).map (fun d => d.parameters.length) = some 2 := by decide +kernel
abbrev b_Mo_sort : ByteArray := prog_12_method_5_code
abbrev y_Mo_sort : MethodName := ⟨R_Mo, "sort", "(I)I"⟩
set_option maxRecDepth 100000 in
theorem cd_Mo_sort : Cond.code y_Mo_sort b_Mo_sort 1 (some .int) ∈ x_T := xmem5 15 rfl rfl
set_option maxRecDepth 100000 in
theorem st_Mo_sort : Cond.static y_Mo_sort ∈ x_T := xmem5 14 rfl rfl
set_option maxRecDepth 100000 in
theorem hs_Mo_sort : y_Mo_sort.cls ≠ "java/lang/invoke/MethodHandle" ∧ y_Mo_sort.cls ≠ "java/lang/invoke/VarHandle" ∧ (parseMethodDescriptor y_Mo_sort.desc).map (fun d => d.parameters.length) = some 1 := by decide +kernel
abbrev b_Mo_arity : ByteArray := prog_12_method_6_code
abbrev y_Mo_arity : MethodName := ⟨R_Mo, "arity", "(I)I"⟩
set_option maxRecDepth 100000 in
theorem cd_Mo_arity : Cond.code y_Mo_arity b_Mo_arity 1 (some .int) ∈ x_T := xmem5 21 rfl rfl
set_option maxRecDepth 100000 in
theorem st_Mo_arity : Cond.static y_Mo_arity ∈ x_T := xmem5 20 rfl rfl
set_option maxRecDepth 100000 in
theorem hs_Mo_arity : y_Mo_arity.cls ≠ "java/lang/invoke/MethodHandle" ∧ y_Mo_arity.cls ≠ "java/lang/invoke/VarHandle" ∧ (parseMethodDescriptor y_Mo_arity.desc).map (fun d => d.parameters.length) = some 1 := by decide +kernel
abbrev b_Mo_length : ByteArray := prog_12_method_7_code
abbrev y_Mo_length : MethodName := ⟨R_Mo, "length", "([II)I"⟩
set_option maxRecDepth 100000 in
theorem cd_Mo_length : Cond.code y_Mo_length b_Mo_length 4 (some .int) ∈ x_T := xmem5 18 rfl rfl
set_option maxRecDepth 100000 in
theorem st_Mo_length : Cond.static y_Mo_length ∈ x_T := xmem5 17 rfl rfl
set_option maxRecDepth 100000 in
theorem hs_Mo_length : y_Mo_length.cls ≠ "java/lang/invoke/MethodHandle" ∧ y_Mo_length.cls ≠ "java/lang/invoke/VarHandle" ∧ (parseMethodDescriptor y_Mo_length.desc).map (fun d => d.parameters.length) = some 2 := by decide +kernel
abbrev b_Mo_cat : ByteArray := prog_12_method_10_code
abbrev y_Mo_cat : MethodName := ⟨R_Mo, "cat", "([III[III)I"⟩
set_option maxRecDepth 100000 in
theorem cd_Mo_cat : Cond.code y_Mo_cat b_Mo_cat 13 (some .int) ∈ x_T := xmem5 12 rfl rfl
set_option maxRecDepth 100000 in
theorem im_Mo_cat : Cond.instanceMethod y_Mo_cat ∈ x_T := xmem5 11 rfl rfl
set_option maxRecDepth 100000 in
theorem sl_Mo_cat : Cond.selects R_Mo y_Mo_cat y_Mo_cat ∈ x_T := xmemS 42 rfl rfl
set_option maxRecDepth 100000 in
theorem hv_Mo_cat : y_Mo_cat.cls = R_Mo ∧ y_Mo_cat.cls ≠ "java/lang/invoke/MethodHandle" ∧ y_Mo_cat.cls ≠ "java/lang/invoke/VarHandle" ∧ (parseMethodDescriptor y_Mo_cat.desc).map (fun d => d.parameters.length) = some 6 := by decide +kernel
abbrev b_Mo_part : ByteArray := prog_12_method_11_code
abbrev y_Mo_part : MethodName := ⟨R_Mo, "part", "(III)V"⟩
set_option maxRecDepth 100000 in
theorem cd_Mo_part : Cond.code y_Mo_part b_Mo_part 6 none ∈ x_T := xmem5 25 rfl rfl
set_option maxRecDepth 100000 in
theorem im_Mo_part : Cond.instanceMethod y_Mo_part ∈ x_T := xmem5 24 rfl rfl
set_option maxRecDepth 100000 in
theorem sl_Mo_part : Cond.selects R_Mo y_Mo_part y_Mo_part ∈ x_T := xmemS 43 rfl rfl
set_option maxRecDepth 100000 in
theorem hv_Mo_part : y_Mo_part.cls = R_Mo ∧ y_Mo_part.cls ≠ "java/lang/invoke/MethodHandle" ∧ y_Mo_part.cls ≠ "java/lang/invoke/VarHandle" ∧ (parseMethodDescriptor y_Mo_part.desc).map (fun d => d.parameters.length) = some 3 := by decide +kernel
abbrev b_Mo_isAll : ByteArray := prog_12_method_12_code
abbrev y_Mo_isAll : MethodName := ⟨R_Mo, "isAll", "(I)Z"⟩
set_option maxRecDepth 100000 in
theorem cd_Mo_isAll : Cond.code y_Mo_isAll b_Mo_isAll 2 (some .boolean) ∈ x_T := xmem5 33 rfl rfl
set_option maxRecDepth 100000 in
theorem im_Mo_isAll : Cond.instanceMethod y_Mo_isAll ∈ x_T := xmem5 32 rfl rfl
set_option maxRecDepth 100000 in
theorem sl_Mo_isAll : Cond.selects R_Mo y_Mo_isAll y_Mo_isAll ∈ x_T := xmemS 45 rfl rfl
set_option maxRecDepth 100000 in
theorem hv_Mo_isAll : y_Mo_isAll.cls = R_Mo ∧ y_Mo_isAll.cls ≠ "java/lang/invoke/MethodHandle" ∧ y_Mo_isAll.cls ≠ "java/lang/invoke/VarHandle" ∧ (parseMethodDescriptor y_Mo_isAll.desc).map (fun d => d.parameters.length) = some 1 := by decide +kernel
abbrev b_Mo_simple : ByteArray := prog_12_method_13_code
abbrev y_Mo_simple : MethodName := ⟨R_Mo, "simple", "(IZ)I"⟩
set_option maxRecDepth 100000 in
theorem cd_Mo_simple : Cond.code y_Mo_simple b_Mo_simple 3 (some .int) ∈ x_T := xmem5 37 rfl rfl
set_option maxRecDepth 100000 in
theorem im_Mo_simple : Cond.instanceMethod y_Mo_simple ∈ x_T := xmem5 36 rfl rfl
set_option maxRecDepth 100000 in
theorem sl_Mo_simple : Cond.selects R_Mo y_Mo_simple y_Mo_simple ∈ x_T := xmemS 46 rfl rfl
set_option maxRecDepth 100000 in
theorem hv_Mo_simple : y_Mo_simple.cls = R_Mo ∧ y_Mo_simple.cls ≠ "java/lang/invoke/MethodHandle" ∧ y_Mo_simple.cls ≠ "java/lang/invoke/VarHandle" ∧ (parseMethodDescriptor y_Mo_simple.desc).map (fun d => d.parameters.length) = some 2 := by decide +kernel
abbrev b_Mo_compare : ByteArray := prog_12_method_8_code
abbrev y_Mo_compare : MethodName := ⟨R_Mo, "compare", "([IIIII)I"⟩
set_option maxRecDepth 100000 in
theorem cd_Mo_compare : Cond.code y_Mo_compare b_Mo_compare 6 (some .int) ∈ x_T := xmem5 44 rfl rfl
set_option maxRecDepth 100000 in
theorem st_Mo_compare : Cond.static y_Mo_compare ∈ x_T := xmem5 43 rfl rfl
set_option maxRecDepth 100000 in
theorem hs_Mo_compare : y_Mo_compare.cls ≠ "java/lang/invoke/MethodHandle" ∧ y_Mo_compare.cls ≠ "java/lang/invoke/VarHandle" ∧ (parseMethodDescriptor y_Mo_compare.desc).map (fun d => d.parameters.length) = some 5 := by decide +kernel
abbrev b_Mo_order : ByteArray := prog_12_method_15_code
abbrev y_Mo_order : MethodName := ⟨R_Mo, "order", "(I)I"⟩
set_option maxRecDepth 100000 in
theorem cd_Mo_order : Cond.code y_Mo_order b_Mo_order 8 (some .int) ∈ x_T := xmem5 41 rfl rfl
set_option maxRecDepth 100000 in
theorem im_Mo_order : Cond.instanceMethod y_Mo_order ∈ x_T := xmem5 40 rfl rfl
set_option maxRecDepth 100000 in
theorem sl_Mo_order : Cond.selects R_Mo y_Mo_order y_Mo_order ∈ x_T := xmemS 47 rfl rfl
set_option maxRecDepth 100000 in
theorem hv_Mo_order : y_Mo_order.cls = R_Mo ∧ y_Mo_order.cls ≠ "java/lang/invoke/MethodHandle" ∧ y_Mo_order.cls ≠ "java/lang/invoke/VarHandle" ∧ (parseMethodDescriptor y_Mo_order.desc).map (fun d => d.parameters.length) = some 1 := by decide +kernel
abbrev b_Mo_unite : ByteArray := prog_12_method_14_code
abbrev y_Mo_unite : MethodName := ⟨R_Mo, "unite", "(I)I"⟩
set_option maxRecDepth 100000 in
theorem cd_Mo_unite : Cond.code y_Mo_unite b_Mo_unite 9 (some .int) ∈ x_T := xmem5 29 rfl rfl
set_option maxRecDepth 100000 in
theorem im_Mo_unite : Cond.instanceMethod y_Mo_unite ∈ x_T := xmem5 28 rfl rfl
set_option maxRecDepth 100000 in
theorem sl_Mo_unite : Cond.selects R_Mo y_Mo_unite y_Mo_unite ∈ x_T := xmemS 44 rfl rfl
set_option maxRecDepth 100000 in
theorem hv_Mo_unite : y_Mo_unite.cls = R_Mo ∧ y_Mo_unite.cls ≠ "java/lang/invoke/MethodHandle" ∧ y_Mo_unite.cls ≠ "java/lang/invoke/VarHandle" ∧ (parseMethodDescriptor y_Mo_unite.desc).map (fun d => d.parameters.length) = some 1 := by decide +kernel
abbrev b_Mo_join : ByteArray := prog_12_method_23_code
abbrev y_Mo_join : MethodName := ⟨R_Mo, "join", "(IIII)I"⟩
set_option maxRecDepth 100000 in
theorem cd_Mo_join : Cond.code y_Mo_join b_Mo_join 7 (some .int) ∈ x_T := xmem5 8 rfl rfl
set_option maxRecDepth 100000 in
theorem im_Mo_join : Cond.instanceMethod y_Mo_join ∈ x_T := xmem5 6 rfl rfl
set_option maxRecDepth 100000 in
theorem sl_Mo_join : Cond.selects R_Mo y_Mo_join y_Mo_join ∈ x_T := xmem5 7 rfl rfl
set_option maxRecDepth 100000 in
theorem hv_Mo_join : y_Mo_join.cls = R_Mo ∧ y_Mo_join.cls ≠ "java/lang/invoke/MethodHandle" ∧ y_Mo_join.cls ≠ "java/lang/invoke/VarHandle" ∧ (parseMethodDescriptor y_Mo_join.desc).map (fun d => d.parameters.length) = some 4 := by decide +kernel
abbrev b_Mo_not : ByteArray := prog_12_method_17_code
abbrev y_Mo_not : MethodName := ⟨R_Mo, "not", "(II)I"⟩
set_option maxRecDepth 100000 in
theorem cd_Mo_not : Cond.code y_Mo_not b_Mo_not 4 (some .int) ∈ x_T := xmem5 52 rfl rfl
set_option maxRecDepth 100000 in
theorem im_Mo_not : Cond.instanceMethod y_Mo_not ∈ x_T := xmem5 51 rfl rfl
set_option maxRecDepth 100000 in
theorem sl_Mo_not : Cond.selects R_Mo y_Mo_not y_Mo_not ∈ x_T := xmemS 48 rfl rfl
set_option maxRecDepth 100000 in
theorem hv_Mo_not : y_Mo_not.cls = R_Mo ∧ y_Mo_not.cls ≠ "java/lang/invoke/MethodHandle" ∧ y_Mo_not.cls ≠ "java/lang/invoke/VarHandle" ∧ (parseMethodDescriptor y_Mo_not.desc).map (fun d => d.parameters.length) = some 2 := by decide +kernel
abbrev b_Mo_turn : ByteArray := prog_12_method_24_code
abbrev y_Mo_turn : MethodName := ⟨R_Mo, "turn", "(III)I"⟩
set_option maxRecDepth 100000 in
theorem cd_Mo_turn : Cond.code y_Mo_turn b_Mo_turn 9 (some .int) ∈ x_T := xmem5 48 rfl rfl
set_option maxRecDepth 100000 in
theorem im_Mo_turn : Cond.instanceMethod y_Mo_turn ∈ x_T := xmem5 46 rfl rfl
set_option maxRecDepth 100000 in
theorem sl_Mo_turn : Cond.selects R_Mo y_Mo_turn y_Mo_turn ∈ x_T := xmem5 47 rfl rfl
set_option maxRecDepth 100000 in
theorem hv_Mo_turn : y_Mo_turn.cls = R_Mo ∧ y_Mo_turn.cls ≠ "java/lang/invoke/MethodHandle" ∧ y_Mo_turn.cls ≠ "java/lang/invoke/VarHandle" ∧ (parseMethodDescriptor y_Mo_turn.desc).map (fun d => d.parameters.length) = some 3 := by decide +kernel
abbrev b_Mo_place : ByteArray := prog_12_method_16_code
abbrev y_Mo_place : MethodName := ⟨R_Mo, "place", "(IIIZ)V"⟩
set_option maxRecDepth 100000 in
theorem cd_Mo_place : Cond.code y_Mo_place b_Mo_place 6 none ∈ x_T := xmem5 64 rfl rfl
set_option maxRecDepth 100000 in
theorem im_Mo_place : Cond.instanceMethod y_Mo_place ∈ x_T := xmem5 63 rfl rfl
set_option maxRecDepth 100000 in
theorem sl_Mo_place : Cond.selects R_Mo y_Mo_place y_Mo_place ∈ x_T := xmemS 50 rfl rfl
set_option maxRecDepth 100000 in
theorem hv_Mo_place : y_Mo_place.cls = R_Mo ∧ y_Mo_place.cls ≠ "java/lang/invoke/MethodHandle" ∧ y_Mo_place.cls ≠ "java/lang/invoke/VarHandle" ∧ (parseMethodDescriptor y_Mo_place.desc).map (fun d => d.parameters.length) = some 4 := by decide +kernel
abbrev b_Mo_both : ByteArray := prog_12_method_19_code
abbrev y_Mo_both : MethodName := ⟨R_Mo, "both", "([I)V"⟩
set_option maxRecDepth 100000 in
theorem cd_Mo_both : Cond.code y_Mo_both b_Mo_both 7 none ∈ x_T := xmem5 68 rfl rfl
set_option maxRecDepth 100000 in
theorem im_Mo_both : Cond.instanceMethod y_Mo_both ∈ x_T := xmem5 67 rfl rfl
set_option maxRecDepth 100000 in
theorem sl_Mo_both : Cond.selects R_Mo y_Mo_both y_Mo_both ∈ x_T := xmemS 51 rfl rfl
set_option maxRecDepth 100000 in
theorem hv_Mo_both : y_Mo_both.cls = R_Mo ∧ y_Mo_both.cls ≠ "java/lang/invoke/MethodHandle" ∧ y_Mo_both.cls ≠ "java/lang/invoke/VarHandle" ∧ (parseMethodDescriptor y_Mo_both.desc).map (fun d => d.parameters.length) = some 1 := by decide +kernel
abbrev b_Mo_several : ByteArray := prog_12_method_20_code
abbrev y_Mo_several : MethodName := ⟨R_Mo, "several", "(II)V"⟩
set_option maxRecDepth 100000 in
theorem cd_Mo_several : Cond.code y_Mo_several b_Mo_several 7 none ∈ x_T := xmem5 72 rfl rfl
set_option maxRecDepth 100000 in
theorem im_Mo_several : Cond.instanceMethod y_Mo_several ∈ x_T := xmem5 71 rfl rfl
set_option maxRecDepth 100000 in
theorem sl_Mo_several : Cond.selects R_Mo y_Mo_several y_Mo_several ∈ x_T := xmemS 52 rfl rfl
set_option maxRecDepth 100000 in
theorem hv_Mo_several : y_Mo_several.cls = R_Mo ∧ y_Mo_several.cls ≠ "java/lang/invoke/MethodHandle" ∧ y_Mo_several.cls ≠ "java/lang/invoke/VarHandle" ∧ (parseMethodDescriptor y_Mo_several.desc).map (fun d => d.parameters.length) = some 2 := by decide +kernel
abbrev b_Mo_derived : ByteArray := prog_12_method_18_code
abbrev y_Mo_derived : MethodName := ⟨R_Mo, "derived", "([IIII)I"⟩
set_option maxRecDepth 100000 in
theorem cd_Mo_derived : Cond.code y_Mo_derived b_Mo_derived 7 (some .int) ∈ x_T := xmem5 60 rfl rfl
set_option maxRecDepth 100000 in
theorem im_Mo_derived : Cond.instanceMethod y_Mo_derived ∈ x_T := xmem5 59 rfl rfl
set_option maxRecDepth 100000 in
theorem sl_Mo_derived : Cond.selects R_Mo y_Mo_derived y_Mo_derived ∈ x_T := xmemS 49 rfl rfl
set_option maxRecDepth 100000 in
theorem hv_Mo_derived : y_Mo_derived.cls = R_Mo ∧ y_Mo_derived.cls ≠ "java/lang/invoke/MethodHandle" ∧ y_Mo_derived.cls ≠ "java/lang/invoke/VarHandle" ∧ (parseMethodDescriptor y_Mo_derived.desc).map (fun d => d.parameters.length) = some 4 := by decide +kernel
abbrev b_Mo_derive : ByteArray := prog_12_method_25_code
abbrev y_Mo_derive : MethodName := ⟨R_Mo, "derive", "(III)I"⟩
set_option maxRecDepth 100000 in
theorem cd_Mo_derive : Cond.code y_Mo_derive b_Mo_derive 7 (some .int) ∈ x_T := xmem5 56 rfl rfl
set_option maxRecDepth 100000 in
theorem im_Mo_derive : Cond.instanceMethod y_Mo_derive ∈ x_T := xmem5 54 rfl rfl
set_option maxRecDepth 100000 in
theorem sl_Mo_derive : Cond.selects R_Mo y_Mo_derive y_Mo_derive ∈ x_T := xmem5 55 rfl rfl
set_option maxRecDepth 100000 in
theorem hv_Mo_derive : y_Mo_derive.cls = R_Mo ∧ y_Mo_derive.cls ≠ "java/lang/invoke/MethodHandle" ∧ y_Mo_derive.cls ≠ "java/lang/invoke/VarHandle" ∧ (parseMethodDescriptor y_Mo_derive.desc).map (fun d => d.parameters.length) = some 3 := by decide +kernel
abbrev b_Mo_same : ByteArray := prog_12_method_9_code
abbrev y_Mo_same : MethodName := ⟨R_Mo, "same", "([III[III)Z"⟩
set_option maxRecDepth 100000 in
theorem cd_Mo_same : Cond.code y_Mo_same b_Mo_same 8 (some .boolean) ∈ x_T := xmem5 79 rfl rfl
set_option maxRecDepth 100000 in
theorem st_Mo_same : Cond.static y_Mo_same ∈ x_T := xmem5 78 rfl rfl
set_option maxRecDepth 100000 in
theorem hs_Mo_same : y_Mo_same.cls ≠ "java/lang/invoke/MethodHandle" ∧ y_Mo_same.cls ≠ "java/lang/invoke/VarHandle" ∧ (parseMethodDescriptor y_Mo_same.desc).map (fun d => d.parameters.length) = some 6 := by decide +kernel
abbrev b_Mo_similar : ByteArray := prog_12_method_26_code
abbrev y_Mo_similar : MethodName := ⟨R_Mo, "similar", "(II)Z"⟩
set_option maxRecDepth 100000 in
theorem cd_Mo_similar : Cond.code y_Mo_similar b_Mo_similar 3 (some .boolean) ∈ x_T := xmem5 76 rfl rfl
set_option maxRecDepth 100000 in
theorem im_Mo_similar : Cond.instanceMethod y_Mo_similar ∈ x_T := xmem5 74 rfl rfl
set_option maxRecDepth 100000 in
theorem sl_Mo_similar : Cond.selects R_Mo y_Mo_similar y_Mo_similar ∈ x_T := xmem5 75 rfl rfl
set_option maxRecDepth 100000 in
theorem hv_Mo_similar : y_Mo_similar.cls = R_Mo ∧ y_Mo_similar.cls ≠ "java/lang/invoke/MethodHandle" ∧ y_Mo_similar.cls ≠ "java/lang/invoke/VarHandle" ∧ (parseMethodDescriptor y_Mo_similar.desc).map (fun d => d.parameters.length) = some 2 := by decide +kernel
abbrev b_Mo_match : ByteArray := prog_12_method_27_code
abbrev y_Mo_match : MethodName := ⟨R_Mo, "match", "(IIIII)V"⟩
set_option maxRecDepth 100000 in
theorem cd_Mo_match : Cond.code y_Mo_match b_Mo_match 13 none ∈ x_T := xmem5 87 rfl rfl
set_option maxRecDepth 100000 in
theorem im_Mo_match : Cond.instanceMethod y_Mo_match ∈ x_T := xmem5 86 rfl rfl
set_option maxRecDepth 100000 in
theorem sl_Mo_match : Cond.selects R_Mo y_Mo_match y_Mo_match ∈ x_T := xmemS 53 rfl rfl
set_option maxRecDepth 100000 in
theorem hv_Mo_match : y_Mo_match.cls = R_Mo ∧ y_Mo_match.cls ≠ "java/lang/invoke/MethodHandle" ∧ y_Mo_match.cls ≠ "java/lang/invoke/VarHandle" ∧ (parseMethodDescriptor y_Mo_match.desc).map (fun d => d.parameters.length) = some 5 := by decide +kernel
abbrev b_Mo_has : ByteArray := prog_12_method_28_code
abbrev y_Mo_has : MethodName := ⟨R_Mo, "has", "(III)Z"⟩
set_option maxRecDepth 100000 in
theorem cd_Mo_has : Cond.code y_Mo_has b_Mo_has 8 (some .boolean) ∈ x_T := xmem5 83 rfl rfl
set_option maxRecDepth 100000 in
theorem im_Mo_has : Cond.instanceMethod y_Mo_has ∈ x_T := xmem5 81 rfl rfl
set_option maxRecDepth 100000 in
theorem sl_Mo_has : Cond.selects R_Mo y_Mo_has y_Mo_has ∈ x_T := xmem5 82 rfl rfl
set_option maxRecDepth 100000 in
theorem hv_Mo_has : y_Mo_has.cls = R_Mo ∧ y_Mo_has.cls ≠ "java/lang/invoke/MethodHandle" ∧ y_Mo_has.cls ≠ "java/lang/invoke/VarHandle" ∧ (parseMethodDescriptor y_Mo_has.desc).map (fun d => d.parameters.length) = some 3 := by decide +kernel
abbrev b_Mo_known : ByteArray := prog_12_method_29_code
abbrev y_Mo_known : MethodName := ⟨R_Mo, "known", "(II)I"⟩
set_option maxRecDepth 100000 in
theorem cd_Mo_known : Cond.code y_Mo_known b_Mo_known 4 (some .int) ∈ x_T := xmem5 99 rfl rfl
set_option maxRecDepth 100000 in
theorem im_Mo_known : Cond.instanceMethod y_Mo_known ∈ x_T := xmem5 98 rfl rfl
set_option maxRecDepth 100000 in
theorem sl_Mo_known : Cond.selects R_Mo y_Mo_known y_Mo_known ∈ x_T := xmemS 55 rfl rfl
set_option maxRecDepth 100000 in
theorem hv_Mo_known : y_Mo_known.cls = R_Mo ∧ y_Mo_known.cls ≠ "java/lang/invoke/MethodHandle" ∧ y_Mo_known.cls ≠ "java/lang/invoke/VarHandle" ∧ (parseMethodDescriptor y_Mo_known.desc).map (fun d => d.parameters.length) = some 2 := by decide +kernel
abbrev b_Mo_explore : ByteArray := prog_12_method_30_code
abbrev y_Mo_explore : MethodName := ⟨R_Mo, "explore", "(I)I"⟩
set_option maxRecDepth 100000 in
theorem cd_Mo_explore : Cond.code y_Mo_explore b_Mo_explore 8 (some .int) ∈ x_T := xmem5 95 rfl rfl
set_option maxRecDepth 100000 in
theorem im_Mo_explore : Cond.instanceMethod y_Mo_explore ∈ x_T := xmem5 94 rfl rfl
set_option maxRecDepth 100000 in
theorem sl_Mo_explore : Cond.selects R_Mo y_Mo_explore y_Mo_explore ∈ x_T := xmemS 54 rfl rfl
set_option maxRecDepth 100000 in
theorem hv_Mo_explore : y_Mo_explore.cls = R_Mo ∧ y_Mo_explore.cls ≠ "java/lang/invoke/MethodHandle" ∧ y_Mo_explore.cls ≠ "java/lang/invoke/VarHandle" ∧ (parseMethodDescriptor y_Mo_explore.desc).map (fun d => d.parameters.length) = some 1 := by decide +kernel
abbrev b_Mo_states : ByteArray := prog_12_method_31_code
abbrev y_Mo_states : MethodName := ⟨R_Mo, "states", "(I)I"⟩
set_option maxRecDepth 100000 in
theorem cd_Mo_states : Cond.code y_Mo_states b_Mo_states 2 (some .int) ∈ x_T := xmem5 91 rfl rfl
set_option maxRecDepth 100000 in
theorem im_Mo_states : Cond.instanceMethod y_Mo_states ∈ x_T := xmem5 89 rfl rfl
set_option maxRecDepth 100000 in
theorem sl_Mo_states : Cond.selects R_Mo y_Mo_states y_Mo_states ∈ x_T := xmem5 90 rfl rfl
set_option maxRecDepth 100000 in
theorem hv_Mo_states : y_Mo_states.cls = R_Mo ∧ y_Mo_states.cls ≠ "java/lang/invoke/MethodHandle" ∧ y_Mo_states.cls ≠ "java/lang/invoke/VarHandle" ∧ (parseMethodDescriptor y_Mo_states.desc).map (fun d => d.parameters.length) = some 1 := by decide +kernel
abbrev b_Mo_alike : ByteArray := prog_12_method_33_code
abbrev y_Mo_alike : MethodName := ⟨R_Mo, "alike", "(II)Z"⟩
set_option maxRecDepth 100000 in
theorem cd_Mo_alike : Cond.code y_Mo_alike b_Mo_alike 5 (some .boolean) ∈ x_T := xmem5 107 rfl rfl
set_option maxRecDepth 100000 in
theorem im_Mo_alike : Cond.instanceMethod y_Mo_alike ∈ x_T := xmem5 106 rfl rfl
set_option maxRecDepth 100000 in
theorem sl_Mo_alike : Cond.selects R_Mo y_Mo_alike y_Mo_alike ∈ x_T := xmemS 56 rfl rfl
set_option maxRecDepth 100000 in
theorem hv_Mo_alike : y_Mo_alike.cls = R_Mo ∧ y_Mo_alike.cls ≠ "java/lang/invoke/MethodHandle" ∧ y_Mo_alike.cls ≠ "java/lang/invoke/VarHandle" ∧ (parseMethodDescriptor y_Mo_alike.desc).map (fun d => d.parameters.length) = some 2 := by decide +kernel
abbrev b_Mo_languages : ByteArray := prog_12_method_32_code
abbrev y_Mo_languages : MethodName := ⟨R_Mo, "languages", "(I)I"⟩
set_option maxRecDepth 100000 in
theorem cd_Mo_languages : Cond.code y_Mo_languages b_Mo_languages 7 (some .int) ∈ x_T := xmem5 103 rfl rfl
set_option maxRecDepth 100000 in
theorem im_Mo_languages : Cond.instanceMethod y_Mo_languages ∈ x_T := xmem5 101 rfl rfl
set_option maxRecDepth 100000 in
theorem sl_Mo_languages : Cond.selects R_Mo y_Mo_languages y_Mo_languages ∈ x_T := xmem5 102 rfl rfl
set_option maxRecDepth 100000 in
theorem hv_Mo_languages : y_Mo_languages.cls = R_Mo ∧ y_Mo_languages.cls ≠ "java/lang/invoke/MethodHandle" ∧ y_Mo_languages.cls ≠ "java/lang/invoke/VarHandle" ∧ (parseMethodDescriptor y_Mo_languages.desc).map (fun d => d.parameters.length) = some 1 := by decide +kernel
abbrev b_Mo_tell : ByteArray := prog_12_method_35_code
abbrev y_Mo_tell : MethodName := ⟨R_Mo, "tell", "(I)V"⟩
set_option maxRecDepth 100000 in
theorem cd_Mo_tell : Cond.code y_Mo_tell b_Mo_tell 4 none ∈ x_T := xmem5 115 rfl rfl
set_option maxRecDepth 100000 in
theorem im_Mo_tell : Cond.instanceMethod y_Mo_tell ∈ x_T := xmem5 114 rfl rfl
set_option maxRecDepth 100000 in
theorem sl_Mo_tell : Cond.selects R_Mo y_Mo_tell y_Mo_tell ∈ x_T := xmemS 57 rfl rfl
set_option maxRecDepth 100000 in
theorem hv_Mo_tell : y_Mo_tell.cls = R_Mo ∧ y_Mo_tell.cls ≠ "java/lang/invoke/MethodHandle" ∧ y_Mo_tell.cls ≠ "java/lang/invoke/VarHandle" ∧ (parseMethodDescriptor y_Mo_tell.desc).map (fun d => d.parameters.length) = some 1 := by decide +kernel
abbrev b_Mo_equal : ByteArray := prog_12_method_34_code
abbrev y_Mo_equal : MethodName := ⟨R_Mo, "equal", "(II)I"⟩
set_option maxRecDepth 100000 in
theorem cd_Mo_equal : Cond.code y_Mo_equal b_Mo_equal 9 (some .int) ∈ x_T := xmem5 111 rfl rfl
set_option maxRecDepth 100000 in
theorem im_Mo_equal : Cond.instanceMethod y_Mo_equal ∈ x_T := xmem5 109 rfl rfl
set_option maxRecDepth 100000 in
theorem sl_Mo_equal : Cond.selects R_Mo y_Mo_equal y_Mo_equal ∈ x_T := xmem5 110 rfl rfl
set_option maxRecDepth 100000 in
theorem hv_Mo_equal : y_Mo_equal.cls = R_Mo ∧ y_Mo_equal.cls ≠ "java/lang/invoke/MethodHandle" ∧ y_Mo_equal.cls ≠ "java/lang/invoke/VarHandle" ∧ (parseMethodDescriptor y_Mo_equal.desc).map (fun d => d.parameters.length) = some 2 := by decide +kernel
abbrev b_Mo_witness : ByteArray := prog_12_method_36_code
abbrev y_Mo_witness : MethodName := ⟨R_Mo, "witness", "(I)I"⟩
set_option maxRecDepth 100000 in
theorem cd_Mo_witness : Cond.code y_Mo_witness b_Mo_witness 2 (some .int) ∈ x_T := xmem5 119 rfl rfl
set_option maxRecDepth 100000 in
theorem im_Mo_witness : Cond.instanceMethod y_Mo_witness ∈ x_T := xmem5 117 rfl rfl
set_option maxRecDepth 100000 in
theorem sl_Mo_witness : Cond.selects R_Mo y_Mo_witness y_Mo_witness ∈ x_T := xmem5 118 rfl rfl
set_option maxRecDepth 100000 in
theorem hv_Mo_witness : y_Mo_witness.cls = R_Mo ∧ y_Mo_witness.cls ≠ "java/lang/invoke/MethodHandle" ∧ y_Mo_witness.cls ≠ "java/lang/invoke/VarHandle" ∧ (parseMethodDescriptor y_Mo_witness.desc).map (fun d => d.parameters.length) = some 1 := by decide +kernel
abbrev b_Mo_count : ByteArray := prog_12_method_37_code
abbrev y_Mo_count : MethodName := ⟨R_Mo, "count", "(I)V"⟩
set_option maxRecDepth 100000 in
theorem cd_Mo_count : Cond.code y_Mo_count b_Mo_count 7 none ∈ x_T := xmem5 128 rfl rfl
set_option maxRecDepth 100000 in
theorem im_Mo_count : Cond.instanceMethod y_Mo_count ∈ x_T := xmem5 127 rfl rfl
set_option maxRecDepth 100000 in
theorem sl_Mo_count : Cond.selects R_Mo y_Mo_count y_Mo_count ∈ x_T := xmemS 58 rfl rfl
set_option maxRecDepth 100000 in
theorem hv_Mo_count : y_Mo_count.cls = R_Mo ∧ y_Mo_count.cls ≠ "java/lang/invoke/MethodHandle" ∧ y_Mo_count.cls ≠ "java/lang/invoke/VarHandle" ∧ (parseMethodDescriptor y_Mo_count.desc).map (fun d => d.parameters.length) = some 1 := by decide +kernel
abbrev b_Mo_words : ByteArray := prog_12_method_38_code
abbrev y_Mo_words : MethodName := ⟨R_Mo, "words", "(II)J"⟩
set_option maxRecDepth 100000 in
theorem cd_Mo_words : Cond.code y_Mo_words b_Mo_words 5 (some .long) ∈ x_T := xmem5 123 rfl rfl
set_option maxRecDepth 100000 in
theorem im_Mo_words : Cond.instanceMethod y_Mo_words ∈ x_T := xmem5 121 rfl rfl
set_option maxRecDepth 100000 in
theorem sl_Mo_words : Cond.selects R_Mo y_Mo_words y_Mo_words ∈ x_T := xmem5 122 rfl rfl
set_option maxRecDepth 100000 in
theorem hv_Mo_words : y_Mo_words.cls = R_Mo ∧ y_Mo_words.cls ≠ "java/lang/invoke/MethodHandle" ∧ y_Mo_words.cls ≠ "java/lang/invoke/VarHandle" ∧ (parseMethodDescriptor y_Mo_words.desc).map (fun d => d.parameters.length) = some 2 := by decide +kernel
abbrev b_Mo_ends : ByteArray := prog_12_method_39_code
abbrev y_Mo_ends : MethodName := ⟨R_Mo, "ends", "(I)I"⟩
set_option maxRecDepth 100000 in
theorem cd_Mo_ends : Cond.code y_Mo_ends b_Mo_ends 7 (some .int) ∈ x_T := xmem5 132 rfl rfl
set_option maxRecDepth 100000 in
theorem im_Mo_ends : Cond.instanceMethod y_Mo_ends ∈ x_T := xmem5 130 rfl rfl
set_option maxRecDepth 100000 in
theorem sl_Mo_ends : Cond.selects R_Mo y_Mo_ends y_Mo_ends ∈ x_T := xmem5 131 rfl rfl
set_option maxRecDepth 100000 in
theorem hv_Mo_ends : y_Mo_ends.cls = R_Mo ∧ y_Mo_ends.cls ≠ "java/lang/invoke/MethodHandle" ∧ y_Mo_ends.cls ≠ "java/lang/invoke/VarHandle" ∧ (parseMethodDescriptor y_Mo_ends.desc).map (fun d => d.parameters.length) = some 1 := by decide +kernel
abbrev b_Mo_find : ByteArray := prog_12_method_40_code
abbrev y_Mo_find : MethodName := ⟨R_Mo, "find", "(IJ)J"⟩
set_option maxRecDepth 100000 in
theorem cd_Mo_find : Cond.code y_Mo_find b_Mo_find 13 (some .long) ∈ x_T := xmem5 136 rfl rfl
set_option maxRecDepth 100000 in
theorem im_Mo_find : Cond.instanceMethod y_Mo_find ∈ x_T := xmem5 134 rfl rfl
set_option maxRecDepth 100000 in
theorem sl_Mo_find : Cond.selects R_Mo y_Mo_find y_Mo_find ∈ x_T := xmem5 135 rfl rfl
set_option maxRecDepth 100000 in
theorem hv_Mo_find : y_Mo_find.cls = R_Mo ∧ y_Mo_find.cls ≠ "java/lang/invoke/MethodHandle" ∧ y_Mo_find.cls ≠ "java/lang/invoke/VarHandle" ∧ (parseMethodDescriptor y_Mo_find.desc).map (fun d => d.parameters.length) = some 2 := by decide +kernel
abbrev b_Mo_look : ByteArray := prog_12_method_41_code
abbrev y_Mo_look : MethodName := ⟨R_Mo, "look", "(II)I"⟩
set_option maxRecDepth 100000 in
theorem cd_Mo_look : Cond.code y_Mo_look b_Mo_look 4 (some .int) ∈ x_T := xmem5 141 rfl rfl
set_option maxRecDepth 100000 in
theorem im_Mo_look : Cond.instanceMethod y_Mo_look ∈ x_T := xmem5 139 rfl rfl
set_option maxRecDepth 100000 in
theorem sl_Mo_look : Cond.selects R_Mo y_Mo_look y_Mo_look ∈ x_T := xmem5 140 rfl rfl
set_option maxRecDepth 100000 in
theorem hv_Mo_look : y_Mo_look.cls = R_Mo ∧ y_Mo_look.cls ≠ "java/lang/invoke/MethodHandle" ∧ y_Mo_look.cls ≠ "java/lang/invoke/VarHandle" ∧ (parseMethodDescriptor y_Mo_look.desc).map (fun d => d.parameters.length) = some 2 := by decide +kernel
set_option maxRecDepth 100000 in
theorem ml_D_61 : Cond.methodLink R_D 61 y_D_checkSlot ∈ x_T := xmem2 65 rfl rfl
set_option maxRecDepth 100000 in
theorem gl_D_61 (w0 : Cond) : GoodIn (w0 :: x_T) (Cond.code y_D_checkSlot b_D_checkSlot 1 none :: x_T) := xgood cd_D_checkSlot
set_option maxRecDepth 100000 in
theorem ml_D_65 : Cond.methodLink R_D 65 y_D_checkRange ∈ x_T := xmem2 130 rfl rfl
set_option maxRecDepth 100000 in
theorem gl_D_65 (w0 : Cond) : GoodIn (w0 :: x_T) (Cond.code y_D_checkRange b_D_checkRange 2 none :: x_T) := xgood cd_D_checkRange
set_option maxRecDepth 100000 in
theorem ml_D_69 : Cond.methodLink R_D 69 y_D_put ∈ x_T := xmem2 148 rfl rfl
set_option maxRecDepth 100000 in
theorem gl_D_69 (w0 : Cond) : GoodIn (w0 :: x_T) (wsV R_D 69 R_D y_D_put (Cond.code y_D_put b_D_put 4 (some .int) :: x_T)) := xgoodV ml_D_69 im_D_put sl_D_put in_D cd_D_put
set_option maxRecDepth 100000 in
theorem ml_D_73 : Cond.methodLink R_D 73 y_Explorer_tidy ∈ x_T := xmem2 171 rfl rfl
set_option maxRecDepth 100000 in
theorem gl_D_73 (w0 : Cond) : GoodIn (w0 :: x_T) (wsV R_D 73 R_Explorer y_Explorer_tidy (Cond.code y_Explorer_tidy b_Explorer_tidy 3 none :: x_T)) := xgoodV ml_D_73 im_Explorer_tidy sl_Explorer_tidy in_Explorer cd_Explorer_tidy
set_option maxRecDepth 100000 in
theorem ml_D_77 : Cond.methodLink R_D 77 y_Terms_cat ∈ x_T := xmem2 211 rfl rfl
set_option maxRecDepth 100000 in
theorem gl_D_77 (w0 : Cond) : GoodIn (w0 :: x_T) (wsV R_D 77 R_Terms y_Terms_cat (Cond.code y_Terms_cat b_Terms_cat 6 (some .int) :: x_T)) := xgoodV ml_D_77 im_Terms_cat sl_Terms_cat in_Terms cd_Terms_cat
set_option maxRecDepth 100000 in
theorem ml_D_80 : Cond.methodLink R_D 80 y_Terms_both ∈ x_T := xmem3 28 rfl rfl
set_option maxRecDepth 100000 in
theorem gl_D_80 (w0 : Cond) : GoodIn (w0 :: x_T) (wsV R_D 80 R_Terms y_Terms_both (Cond.code y_Terms_both b_Terms_both 4 (some .int) :: x_T)) := xgoodV ml_D_80 im_Terms_both sl_Terms_both in_Terms cd_Terms_both
set_option maxRecDepth 100000 in
theorem ml_D_84 : Cond.methodLink R_D 84 y_Terms_not ∈ x_T := xmem3 82 rfl rfl
set_option maxRecDepth 100000 in
theorem gl_D_84 (w0 : Cond) : GoodIn (w0 :: x_T) (wsV R_D 84 R_Terms y_Terms_not (Cond.code y_Terms_not b_Terms_not 2 (some .int) :: x_T)) := xgoodV ml_D_84 im_Terms_not sl_Terms_not in_Terms cd_Terms_not
set_option maxRecDepth 100000 in
theorem ml_D_88 : Cond.methodLink R_D 88 y_Terms_star ∈ x_T := xmem3 86 rfl rfl
set_option maxRecDepth 100000 in
theorem gl_D_88 (w0 : Cond) : GoodIn (w0 :: x_T) (wsV R_D 88 R_Terms y_Terms_star (Cond.code y_Terms_star b_Terms_star 2 (some .int) :: x_T)) := xgoodV ml_D_88 im_Terms_star sl_Terms_star in_Terms cd_Terms_star
set_option maxRecDepth 100000 in
theorem ml_D_91 : Cond.methodLink R_D 91 y_Terms_derivative ∈ x_T := xmem3 97 rfl rfl
set_option maxRecDepth 100000 in
theorem gl_D_91 (w0 : Cond) : GoodIn (w0 :: x_T) (wsV R_D 91 R_Terms y_Terms_derivative (Cond.code y_Terms_derivative b_Terms_derivative 6 (some .int) :: x_T)) := xgoodV ml_D_91 im_Terms_derivative sl_Terms_derivative in_Terms cd_Terms_derivative
set_option maxRecDepth 100000 in
theorem ml_D_94 : Cond.methodLink R_D 94 y_WordCheck_accepts ∈ x_T := xmem3 133 rfl rfl
set_option maxRecDepth 100000 in
theorem gl_D_94 (w0 : Cond) : GoodIn (w0 :: x_T) (wsV R_D 94 R_WordCheck y_WordCheck_accepts (Cond.code y_WordCheck_accepts b_WordCheck_accepts 7 (some .boolean) :: x_T)) := xgoodV ml_D_94 im_WordCheck_accepts sl_WordCheck_accepts in_WordCheck cd_WordCheck_accepts
set_option maxRecDepth 100000 in
theorem ml_D_98 : Cond.methodLink R_D 98 y_Explorer_machineOf ∈ x_T := xmem3 199 rfl rfl
set_option maxRecDepth 100000 in
theorem gl_D_98 (w0 : Cond) : GoodIn (w0 :: x_T) (wsV R_D 98 R_Explorer y_Explorer_machineOf (Cond.code y_Explorer_machineOf b_Explorer_machineOf 10 (some (.object "DerivativeDesk$Machine")) :: x_T)) := xgoodV ml_D_98 im_Explorer_machineOf sl_Explorer_machineOf in_Explorer cd_Explorer_machineOf
set_option maxRecDepth 100000 in
theorem ml_D_102 : Cond.methodLink R_D 102 y_Machine_count ∈ x_T := xmem3 227 rfl rfl
set_option maxRecDepth 100000 in
theorem gl_D_102 (w0 : Cond) : GoodIn (w0 :: x_T) (wsV R_D 102 R_Machine y_Machine_count (Cond.code y_Machine_count b_Machine_count 1 (some .int) :: x_T)) := xgoodV ml_D_102 im_Machine_count sl_Machine_count in_Machine cd_Machine_count
set_option maxRecDepth 100000 in
theorem ml_D_108 : Cond.methodLink R_D 108 y_Machine_isTooLarge ∈ x_T := xmem3 238 rfl rfl
set_option maxRecDepth 100000 in
theorem gl_D_108 (w0 : Cond) : GoodIn (w0 :: x_T) (wsV R_D 108 R_Machine y_Machine_isTooLarge (Cond.code y_Machine_isTooLarge b_Machine_isTooLarge 1 (some .boolean) :: x_T)) := xgoodV ml_D_108 im_Machine_isTooLarge sl_Machine_isTooLarge in_Machine cd_Machine_isTooLarge
set_option maxRecDepth 100000 in
theorem ml_D_112 : Cond.methodLink R_D 112 y_Splitter_countParts ∈ x_T := xmem4 2 rfl rfl
set_option maxRecDepth 100000 in
theorem gl_D_112 (w0 : Cond) : GoodIn (w0 :: x_T) (wsV R_D 112 R_Splitter y_Splitter_countParts (Cond.code y_Splitter_countParts b_Splitter_countParts 6 (some .int) :: x_T)) := xgoodV ml_D_112 im_Splitter_countParts sl_Splitter_countParts in_Splitter cd_Splitter_countParts
set_option maxRecDepth 100000 in
theorem ml_D_116 : Cond.methodLink R_D 116 y_Comparison_forget ∈ x_T := xmem4 35 rfl rfl
set_option maxRecDepth 100000 in
theorem gl_D_116 (w0 : Cond) : GoodIn (w0 :: x_T) (wsV R_D 116 R_Comparison y_Comparison_forget (Cond.code y_Comparison_forget b_Comparison_forget 1 none :: x_T)) := xgoodV ml_D_116 im_Comparison_forget sl_Comparison_forget in_Comparison cd_Comparison_forget
set_option maxRecDepth 100000 in
theorem ml_D_119 : Cond.methodLink R_D 119 y_Comparison_differ ∈ x_T := xmem4 39 rfl rfl
set_option maxRecDepth 100000 in
theorem gl_D_119 (w0 : Cond) : GoodIn (w0 :: x_T) (wsV R_D 119 R_Comparison y_Comparison_differ (Cond.code y_Comparison_differ b_Comparison_differ 7 (some .boolean) :: x_T)) := xgoodV ml_D_119 im_Comparison_differ sl_Comparison_differ in_Comparison cd_Comparison_differ
set_option maxRecDepth 100000 in
theorem ml_D_123 : Cond.methodLink R_D 123 y_Comparison_length ∈ x_T := xmem2 48 rfl rfl
set_option maxRecDepth 100000 in
theorem gl_D_123 (w0 : Cond) : GoodIn (w0 :: x_T) (wsV R_D 123 R_Comparison y_Comparison_length (Cond.code y_Comparison_length b_Comparison_length 1 (some .int) :: x_T)) := xgoodV ml_D_123 im_Comparison_length sl_Comparison_length in_Comparison cd_Comparison_length
set_option maxRecDepth 100000 in
theorem ml_D_126 : Cond.methodLink R_D 126 y_Comparison_letter ∈ x_T := xmem2 52 rfl rfl
set_option maxRecDepth 100000 in
theorem gl_D_126 (w0 : Cond) : GoodIn (w0 :: x_T) (wsV R_D 126 R_Comparison y_Comparison_letter (Cond.code y_Comparison_letter b_Comparison_letter 2 (some .int) :: x_T)) := xgoodV ml_D_126 im_Comparison_letter sl_Comparison_letter in_Comparison cd_Comparison_letter
set_option maxRecDepth 100000 in
theorem ml_D_131 : Cond.methodLink R_D 131 y_WordCounts_ofLength ∈ x_T := xmem4 74 rfl rfl
set_option maxRecDepth 100000 in
theorem gl_D_131 (w0 : Cond) : GoodIn (w0 :: x_T) (wsV R_D 131 R_WordCounts y_WordCounts_ofLength (Cond.code y_WordCounts_ofLength b_WordCounts_ofLength 3 (some .long) :: x_T)) := xgoodV ml_D_131 im_WordCounts_ofLength sl_WordCounts_ofLength in_WordCounts cd_WordCounts_ofLength
set_option maxRecDepth 100000 in
theorem ml_D_135 : Cond.methodLink R_D 135 y_WordCounts_isFinite ∈ x_T := xmem4 92 rfl rfl
set_option maxRecDepth 100000 in
theorem gl_D_135 (w0 : Cond) : GoodIn (w0 :: x_T) (wsV R_D 135 R_WordCounts y_WordCounts_isFinite (Cond.code y_WordCounts_isFinite b_WordCounts_isFinite 5 (some .boolean) :: x_T)) := xgoodV ml_D_135 im_WordCounts_isFinite sl_WordCounts_isFinite in_WordCounts cd_WordCounts_isFinite
set_option maxRecDepth 100000 in
theorem ml_D_139 : Cond.methodLink R_D 139 y_WordCounts_wordAt ∈ x_T := xmem4 107 rfl rfl
set_option maxRecDepth 100000 in
theorem gl_D_139 (w0 : Cond) : GoodIn (w0 :: x_T) (wsV R_D 139 R_WordCounts y_WordCounts_wordAt (Cond.code y_WordCounts_wordAt b_WordCounts_wordAt 9 (some .long) :: x_T)) := xgoodV ml_D_139 im_WordCounts_wordAt sl_WordCounts_wordAt in_WordCounts cd_WordCounts_wordAt
set_option maxRecDepth 100000 in
theorem ml_D_143 : Cond.methodLink R_D 143 y_Terms_sortOf ∈ x_T := xmem4 124 rfl rfl
set_option maxRecDepth 100000 in
theorem gl_D_143 (w0 : Cond) : GoodIn (w0 :: x_T) (wsV R_D 143 R_Terms y_Terms_sortOf (Cond.code y_Terms_sortOf b_Terms_sortOf 2 (some .int) :: x_T)) := xgoodV ml_D_143 im_Terms_sortOf sl_Terms_sortOf in_Terms cd_Terms_sortOf
set_option maxRecDepth 100000 in
theorem ml_D_146 : Cond.methodLink R_D 146 y_Terms_sizeOf ∈ x_T := xmem2 152 rfl rfl
set_option maxRecDepth 100000 in
theorem gl_D_146 (w0 : Cond) : GoodIn (w0 :: x_T) (wsV R_D 146 R_Terms y_Terms_sizeOf (Cond.code y_Terms_sizeOf b_Terms_sizeOf 2 (some .int) :: x_T)) := xgoodV ml_D_146 im_Terms_sizeOf sl_Terms_sizeOf in_Terms cd_Terms_sizeOf
set_option maxRecDepth 100000 in
theorem ml_D_149 : Cond.methodLink R_D 149 y_Terms_isNullable ∈ x_T := xmem4 125 rfl rfl
set_option maxRecDepth 100000 in
theorem gl_D_149 (w0 : Cond) : GoodIn (w0 :: x_T) (wsV R_D 149 R_Terms y_Terms_isNullable (Cond.code y_Terms_isNullable b_Terms_isNullable 2 (some .boolean) :: x_T)) := xgoodV ml_D_149 im_Terms_isNullable sl_Terms_isNullable in_Terms cd_Terms_isNullable
set_option maxRecDepth 100000 in
theorem ml_D_153 : Cond.methodLink R_D 153 y_Terms_countOf ∈ x_T := xmem4 126 rfl rfl
set_option maxRecDepth 100000 in
theorem gl_D_153 (w0 : Cond) : GoodIn (w0 :: x_T) (wsV R_D 153 R_Terms y_Terms_countOf (Cond.code y_Terms_countOf b_Terms_countOf 2 (some .int) :: x_T)) := xgoodV ml_D_153 im_Terms_countOf sl_Terms_countOf in_Terms cd_Terms_countOf
set_option maxRecDepth 100000 in
theorem ml_D_162 : Cond.methodLink R_D 162 y_Explorer_forget ∈ x_T := xmem2 156 rfl rfl
set_option maxRecDepth 100000 in
theorem gl_D_162 (w0 : Cond) : GoodIn (w0 :: x_T) (wsV R_D 162 R_Explorer y_Explorer_forget (Cond.code y_Explorer_forget b_Explorer_forget 2 none :: x_T)) := xgoodV ml_D_162 im_Explorer_forget sl_Explorer_forget in_Explorer cd_Explorer_forget
set_option maxRecDepth 100000 in
theorem ml_Comparison_37 : Cond.methodLink R_Comparison 37 y_Machine_count ∈ x_T := xmem4 43 rfl rfl
set_option maxRecDepth 100000 in
theorem gl_Comparison_37 (w0 : Cond) : GoodIn (w0 :: x_T) (wsV R_Comparison 37 R_Machine y_Machine_count (Cond.code y_Machine_count b_Machine_count 1 (some .int) :: x_T)) := xgoodV ml_Comparison_37 im_Machine_count sl_Machine_count in_Machine cd_Machine_count
set_option maxRecDepth 100000 in
theorem ml_Comparison_43 : Cond.methodLink R_Comparison 43 y_Comparison_begin ∈ x_T := xmem4 44 rfl rfl
set_option maxRecDepth 100000 in
theorem gl_Comparison_43 (w0 : Cond) : GoodIn (w0 :: x_T) (wsV R_Comparison 43 R_Comparison y_Comparison_begin (Cond.code y_Comparison_begin b_Comparison_begin 3 none :: x_T)) := xgoodV ml_Comparison_43 im_Comparison_begin sl_Comparison_begin in_Comparison cd_Comparison_begin
set_option maxRecDepth 100000 in
theorem ml_Comparison_47 : Cond.methodLink R_Comparison 47 y_Comparison_isNewPair ∈ x_T := xmem4 48 rfl rfl
set_option maxRecDepth 100000 in
theorem gl_Comparison_47 (w0 : Cond) : GoodIn (w0 :: x_T) (wsV R_Comparison 47 R_Comparison y_Comparison_isNewPair (Cond.code y_Comparison_isNewPair b_Comparison_isNewPair 6 (some .boolean) :: x_T)) := xgoodV ml_Comparison_47 im_Comparison_isNewPair sl_Comparison_isNewPair in_Comparison cd_Comparison_isNewPair
set_option maxRecDepth 100000 in
theorem ml_Comparison_51 : Cond.methodLink R_Comparison 51 y_Comparison_isSplit ∈ x_T := xmem4 56 rfl rfl
set_option maxRecDepth 100000 in
theorem gl_Comparison_51 (w0 : Cond) : GoodIn (w0 :: x_T) (wsV R_Comparison 51 R_Comparison y_Comparison_isSplit (Cond.code y_Comparison_isSplit b_Comparison_isSplit 6 (some .boolean) :: x_T)) := xgoodV ml_Comparison_51 im_Comparison_isSplit sl_Comparison_isSplit in_Comparison cd_Comparison_isSplit
set_option maxRecDepth 100000 in
theorem ml_Comparison_55 : Cond.methodLink R_Comparison 55 y_Machine_next ∈ x_T := xmem4 65 rfl rfl
set_option maxRecDepth 100000 in
theorem gl_Comparison_55 (w0 : Cond) : GoodIn (w0 :: x_T) (wsV R_Comparison 55 R_Machine y_Machine_next (Cond.code y_Machine_next b_Machine_next 3 (some .int) :: x_T)) := xgoodV ml_Comparison_55 im_Machine_next sl_Machine_next in_Machine cd_Machine_next
set_option maxRecDepth 100000 in
theorem ml_Comparison_59 : Cond.methodLink R_Comparison 59 y_Comparison_leaderOf ∈ x_T := xmem4 52 rfl rfl
set_option maxRecDepth 100000 in
theorem gl_Comparison_59 (w0 : Cond) : GoodIn (w0 :: x_T) (wsV R_Comparison 59 R_Comparison y_Comparison_leaderOf (Cond.code y_Comparison_leaderOf b_Comparison_leaderOf 4 (some .int) :: x_T)) := xgoodV ml_Comparison_59 im_Comparison_leaderOf sl_Comparison_leaderOf in_Comparison cd_Comparison_leaderOf
set_option maxRecDepth 100000 in
theorem ml_Comparison_63 : Cond.methodLink R_Comparison 63 y_Machine_isAccepting ∈ x_T := xmem4 60 rfl rfl
set_option maxRecDepth 100000 in
theorem gl_Comparison_63 (w0 : Cond) : GoodIn (w0 :: x_T) (wsV R_Comparison 63 R_Machine y_Machine_isAccepting (Cond.code y_Machine_isAccepting b_Machine_isAccepting 2 (some .boolean) :: x_T)) := xgoodV ml_Comparison_63 im_Machine_isAccepting sl_Machine_isAccepting in_Machine cd_Machine_isAccepting
set_option maxRecDepth 100000 in
theorem ml_Comparison_67 : Cond.methodLink R_Comparison 67 y_Comparison_keepWordTo ∈ x_T := xmem4 61 rfl rfl
set_option maxRecDepth 100000 in
theorem gl_Comparison_67 (w0 : Cond) : GoodIn (w0 :: x_T) (wsV R_Comparison 67 R_Comparison y_Comparison_keepWordTo (Cond.code y_Comparison_keepWordTo b_Comparison_keepWordTo 4 none :: x_T)) := xgoodV ml_Comparison_67 im_Comparison_keepWordTo sl_Comparison_keepWordTo in_Comparison cd_Comparison_keepWordTo
set_option maxRecDepth 100000 in
theorem ml_Explorer_22 : Cond.methodLink R_Explorer 22 y_Machine_setCount ∈ x_T := xmem2 160 rfl rfl
set_option maxRecDepth 100000 in
theorem gl_Explorer_22 (w0 : Cond) : GoodIn (w0 :: x_T) (wsV R_Explorer 22 R_Machine y_Machine_setCount (Cond.code y_Machine_setCount b_Machine_setCount 2 none :: x_T)) := xgoodV ml_Explorer_22 im_Machine_setCount sl_Machine_setCount in_Machine cd_Machine_setCount
set_option maxRecDepth 100000 in
theorem ml_Explorer_26 : Cond.methodLink R_Explorer 26 y_Terms_tidy ∈ x_T := xmem2 175 rfl rfl
set_option maxRecDepth 100000 in
theorem gl_Explorer_26 (w0 : Cond) : GoodIn (w0 :: x_T) (wsV R_Explorer 26 R_Terms y_Terms_tidy (Cond.code y_Terms_tidy b_Terms_tidy 4 none :: x_T)) := xgoodV ml_Explorer_26 im_Terms_tidy sl_Terms_tidy in_Terms cd_Terms_tidy
set_option maxRecDepth 100000 in
theorem ml_Explorer_32 : Cond.methodLink R_Explorer 32 y_Machine_isKnown ∈ x_T := xmem3 203 rfl rfl
set_option maxRecDepth 100000 in
theorem gl_Explorer_32 (w0 : Cond) : GoodIn (w0 :: x_T) (wsV R_Explorer 32 R_Machine y_Machine_isKnown (Cond.code y_Machine_isKnown b_Machine_isKnown 1 (some .boolean) :: x_T)) := xgoodV ml_Explorer_32 im_Machine_isKnown sl_Machine_isKnown in_Machine cd_Machine_isKnown
set_option maxRecDepth 100000 in
theorem ml_Explorer_36 : Cond.methodLink R_Explorer 36 y_Terms_setTag ∈ x_T := xmem3 207 rfl rfl
set_option maxRecDepth 100000 in
theorem gl_Explorer_36 (w0 : Cond) : GoodIn (w0 :: x_T) (wsV R_Explorer 36 R_Terms y_Terms_setTag (Cond.code y_Terms_setTag b_Terms_setTag 3 none :: x_T)) := xgoodV ml_Explorer_36 im_Terms_setTag sl_Terms_setTag in_Terms cd_Terms_setTag
set_option maxRecDepth 100000 in
theorem ml_Explorer_40 : Cond.methodLink R_Explorer 40 y_Terms_isNullable ∈ x_T := xmem3 208 rfl rfl
set_option maxRecDepth 100000 in
theorem gl_Explorer_40 (w0 : Cond) : GoodIn (w0 :: x_T) (wsV R_Explorer 40 R_Terms y_Terms_isNullable (Cond.code y_Terms_isNullable b_Terms_isNullable 2 (some .boolean) :: x_T)) := xgoodV ml_Explorer_40 im_Terms_isNullable sl_Terms_isNullable in_Terms cd_Terms_isNullable
set_option maxRecDepth 100000 in
theorem ml_Explorer_44 : Cond.methodLink R_Explorer 44 y_Machine_setAccepting ∈ x_T := xmem3 212 rfl rfl
set_option maxRecDepth 100000 in
theorem gl_Explorer_44 (w0 : Cond) : GoodIn (w0 :: x_T) (wsV R_Explorer 44 R_Machine y_Machine_setAccepting (Cond.code y_Machine_setAccepting b_Machine_setAccepting 3 none :: x_T)) := xgoodV ml_Explorer_44 im_Machine_setAccepting sl_Machine_setAccepting in_Machine cd_Machine_setAccepting
set_option maxRecDepth 100000 in
theorem ml_Explorer_48 : Cond.methodLink R_Explorer 48 y_Terms_derivative ∈ x_T := xmem3 216 rfl rfl
set_option maxRecDepth 100000 in
theorem gl_Explorer_48 (w0 : Cond) : GoodIn (w0 :: x_T) (wsV R_Explorer 48 R_Terms y_Terms_derivative (Cond.code y_Terms_derivative b_Terms_derivative 6 (some .int) :: x_T)) := xgoodV ml_Explorer_48 im_Terms_derivative sl_Terms_derivative in_Terms cd_Terms_derivative
set_option maxRecDepth 100000 in
theorem ml_Explorer_52 : Cond.methodLink R_Explorer 52 y_Explorer_placeOf ∈ x_T := xmem3 217 rfl rfl
set_option maxRecDepth 100000 in
theorem gl_Explorer_52 (w0 : Cond) : GoodIn (w0 :: x_T) (wsV R_Explorer 52 R_Explorer y_Explorer_placeOf (Cond.code y_Explorer_placeOf b_Explorer_placeOf 5 (some .int) :: x_T)) := xgoodV ml_Explorer_52 im_Explorer_placeOf sl_Explorer_placeOf in_Explorer cd_Explorer_placeOf
set_option maxRecDepth 100000 in
theorem ml_Explorer_56 : Cond.methodLink R_Explorer 56 y_Terms_sizeOf ∈ x_T := xmem3 222 rfl rfl
set_option maxRecDepth 100000 in
theorem gl_Explorer_56 (w0 : Cond) : GoodIn (w0 :: x_T) (wsV R_Explorer 56 R_Terms y_Terms_sizeOf (Cond.code y_Terms_sizeOf b_Terms_sizeOf 2 (some .int) :: x_T)) := xgoodV ml_Explorer_56 im_Terms_sizeOf sl_Terms_sizeOf in_Terms cd_Terms_sizeOf
set_option maxRecDepth 100000 in
theorem ml_Explorer_60 : Cond.methodLink R_Explorer 60 y_Machine_setNext ∈ x_T := xmem3 223 rfl rfl
set_option maxRecDepth 100000 in
theorem gl_Explorer_60 (w0 : Cond) : GoodIn (w0 :: x_T) (wsV R_Explorer 60 R_Machine y_Machine_setNext (Cond.code y_Machine_setNext b_Machine_setNext 4 none :: x_T)) := xgoodV ml_Explorer_60 im_Machine_setNext sl_Machine_setNext in_Machine cd_Machine_setNext
set_option maxRecDepth 100000 in
theorem ml_Explorer_64 : Cond.methodLink R_Explorer 64 y_Terms_tagOf ∈ x_T := xmem3 221 rfl rfl
set_option maxRecDepth 100000 in
theorem gl_Explorer_64 (w0 : Cond) : GoodIn (w0 :: x_T) (wsV R_Explorer 64 R_Terms y_Terms_tagOf (Cond.code y_Terms_tagOf b_Terms_tagOf 2 (some .int) :: x_T)) := xgoodV ml_Explorer_64 im_Terms_tagOf sl_Terms_tagOf in_Terms cd_Terms_tagOf
set_option maxRecDepth 100000 in
theorem ml_Gathering_29 : Cond.methodLink R_Gathering 29 y_Row_clear ∈ x_T := xmem3 36 rfl rfl
set_option maxRecDepth 100000 in
theorem gl_Gathering_29 (w0 : Cond) : GoodIn (w0 :: x_T) (wsV R_Gathering 29 R_Row y_Row_clear (Cond.code y_Row_clear b_Row_clear 1 none :: x_T)) := xgoodV ml_Gathering_29 im_Row_clear sl_Row_clear in_Row cd_Row_clear
set_option maxRecDepth 100000 in
theorem ml_Gathering_32 : Cond.methodLink R_Gathering 32 y_Gathering_swallower ∈ x_T := xmem3 45 rfl rfl
set_option maxRecDepth 100000 in
theorem gl_Gathering_32 (w0 : Cond) : GoodIn (w0 :: x_T) (wsV R_Gathering 32 R_Gathering y_Gathering_swallower (Cond.code y_Gathering_swallower b_Gathering_swallower 1 (some .int) :: x_T)) := xgoodV ml_Gathering_32 im_Gathering_swallower sl_Gathering_swallower in_Gathering cd_Gathering_swallower
set_option maxRecDepth 100000 in
theorem ml_Gathering_36 : Cond.methodLink R_Gathering 36 y_Gathering_takeClass ∈ x_T := xmem3 49 rfl rfl
set_option maxRecDepth 100000 in
theorem gl_Gathering_36 (w0 : Cond) : GoodIn (w0 :: x_T) (wsV R_Gathering 36 R_Gathering y_Gathering_takeClass (Cond.code y_Gathering_takeClass b_Gathering_takeClass 2 none :: x_T)) := xgoodV ml_Gathering_36 im_Gathering_takeClass sl_Gathering_takeClass in_Gathering cd_Gathering_takeClass
set_option maxRecDepth 100000 in
theorem ml_Gathering_40 : Cond.methodLink R_Gathering 40 y_Gathering_neutral ∈ x_T := xmem3 53 rfl rfl
set_option maxRecDepth 100000 in
theorem gl_Gathering_40 (w0 : Cond) : GoodIn (w0 :: x_T) (wsV R_Gathering 40 R_Gathering y_Gathering_neutral (Cond.code y_Gathering_neutral b_Gathering_neutral 1 (some .int) :: x_T)) := xgoodV ml_Gathering_40 im_Gathering_neutral sl_Gathering_neutral in_Gathering cd_Gathering_neutral
set_option maxRecDepth 100000 in
theorem ml_Gathering_43 : Cond.methodLink R_Gathering 43 y_Row_addInOrder ∈ x_T := xmem3 57 rfl rfl
set_option maxRecDepth 100000 in
theorem gl_Gathering_43 (w0 : Cond) : GoodIn (w0 :: x_T) (wsV R_Gathering 43 R_Row y_Row_addInOrder (Cond.code y_Row_addInOrder b_Row_addInOrder 4 none :: x_T)) := xgoodV ml_Gathering_43 im_Row_addInOrder sl_Row_addInOrder in_Row cd_Row_addInOrder
set_option maxRecDepth 100000 in
theorem ml_Gathering_46 : Cond.methodLink R_Gathering 46 y_Row_size ∈ x_T := xmem3 69 rfl rfl
set_option maxRecDepth 100000 in
theorem gl_Gathering_46 (w0 : Cond) : GoodIn (w0 :: x_T) (wsV R_Gathering 46 R_Row y_Row_size (Cond.code y_Row_size b_Row_size 1 (some .int) :: x_T)) := xgoodV ml_Gathering_46 im_Row_size sl_Row_size in_Row cd_Row_size
set_option maxRecDepth 100000 in
theorem ml_Gathering_49 : Cond.methodLink R_Gathering 49 y_Row_get ∈ x_T := xmem3 70 rfl rfl
set_option maxRecDepth 100000 in
theorem gl_Gathering_49 (w0 : Cond) : GoodIn (w0 :: x_T) (wsV R_Gathering 49 R_Row y_Row_get (Cond.code y_Row_get b_Row_get 2 (some .int) :: x_T)) := xgoodV ml_Gathering_49 im_Row_get sl_Row_get in_Row cd_Row_get
set_option maxRecDepth 100000 in
theorem ml_Splitter_27 : Cond.methodLink R_Splitter 27 y_Splitter_splitByEmptyWord ∈ x_T := xmem4 6 rfl rfl
set_option maxRecDepth 100000 in
theorem gl_Splitter_27 (w0 : Cond) : GoodIn (w0 :: x_T) (wsV R_Splitter 27 R_Splitter y_Splitter_splitByEmptyWord (Cond.code y_Splitter_splitByEmptyWord b_Splitter_splitByEmptyWord 5 (some .int) :: x_T)) := xgoodV ml_Splitter_27 im_Splitter_splitByEmptyWord sl_Splitter_splitByEmptyWord in_Splitter cd_Splitter_splitByEmptyWord
set_option maxRecDepth 100000 in
theorem ml_Splitter_31 : Cond.methodLink R_Splitter 31 y_Splitter_splitByLetter ∈ x_T := xmem4 15 rfl rfl
set_option maxRecDepth 100000 in
theorem gl_Splitter_31 (w0 : Cond) : GoodIn (w0 :: x_T) (wsV R_Splitter 31 R_Splitter y_Splitter_splitByLetter (Cond.code y_Splitter_splitByLetter b_Splitter_splitByLetter 8 (some .int) :: x_T)) := xgoodV ml_Splitter_31 im_Splitter_splitByLetter sl_Splitter_splitByLetter in_Splitter cd_Splitter_splitByLetter
set_option maxRecDepth 100000 in
theorem ml_Splitter_35 : Cond.methodLink R_Splitter 35 y_Machine_count ∈ x_T := xmem4 10 rfl rfl
set_option maxRecDepth 100000 in
theorem gl_Splitter_35 (w0 : Cond) : GoodIn (w0 :: x_T) (wsV R_Splitter 35 R_Machine y_Machine_count (Cond.code y_Machine_count b_Machine_count 1 (some .int) :: x_T)) := xgoodV ml_Splitter_35 im_Machine_count sl_Machine_count in_Machine cd_Machine_count
set_option maxRecDepth 100000 in
theorem ml_Splitter_41 : Cond.methodLink R_Splitter 41 y_Machine_isAccepting ∈ x_T := xmem4 11 rfl rfl
set_option maxRecDepth 100000 in
theorem gl_Splitter_41 (w0 : Cond) : GoodIn (w0 :: x_T) (wsV R_Splitter 41 R_Machine y_Machine_isAccepting (Cond.code y_Machine_isAccepting b_Machine_isAccepting 2 (some .boolean) :: x_T)) := xgoodV ml_Splitter_41 im_Machine_isAccepting sl_Machine_isAccepting in_Machine cd_Machine_isAccepting
set_option maxRecDepth 100000 in
theorem ml_Splitter_45 : Cond.methodLink R_Splitter 45 y_Machine_next ∈ x_T := xmem4 19 rfl rfl
set_option maxRecDepth 100000 in
theorem gl_Splitter_45 (w0 : Cond) : GoodIn (w0 :: x_T) (wsV R_Splitter 45 R_Machine y_Machine_next (Cond.code y_Machine_next b_Machine_next 3 (some .int) :: x_T)) := xgoodV ml_Splitter_45 im_Machine_next sl_Machine_next in_Machine cd_Machine_next
set_option maxRecDepth 100000 in
theorem ml_Splitter_49 : Cond.methodLink R_Splitter 49 y_Splitter_entryFor ∈ x_T := xmem4 23 rfl rfl
set_option maxRecDepth 100000 in
theorem gl_Splitter_49 (w0 : Cond) : GoodIn (w0 :: x_T) (wsV R_Splitter 49 R_Splitter y_Splitter_entryFor (Cond.code y_Splitter_entryFor b_Splitter_entryFor 6 (some .int) :: x_T)) := xgoodV ml_Splitter_49 im_Splitter_entryFor sl_Splitter_entryFor in_Splitter cd_Splitter_entryFor
set_option maxRecDepth 100000 in
theorem ml_Terms_81 : Cond.methodLink R_Terms 81 y_Arr_fill ∈ x_T := xmem1 69 rfl rfl
set_option maxRecDepth 100000 in
theorem gl_Terms_81 (w0 : Cond) : GoodIn (w0 :: x_T) (Cond.code y_Arr_fill b_Arr_fill 4 none :: x_T) := xgood cd_Arr_fill
set_option maxRecDepth 100000 in
theorem ml_Terms_87 : Cond.methodLink R_Terms 87 y_Row_clear ∈ x_T := xmem2 215 rfl rfl
set_option maxRecDepth 100000 in
theorem gl_Terms_87 (w0 : Cond) : GoodIn (w0 :: x_T) (wsV R_Terms 87 R_Row y_Row_clear (Cond.code y_Row_clear b_Row_clear 1 none :: x_T)) := xgoodV ml_Terms_87 im_Row_clear sl_Row_clear in_Row cd_Row_clear
set_option maxRecDepth 100000 in
theorem ml_Terms_91 : Cond.methodLink R_Terms 91 y_Terms_kid ∈ x_T := xmem2 187 rfl rfl
set_option maxRecDepth 100000 in
theorem gl_Terms_91 (w0 : Cond) : GoodIn (w0 :: x_T) (wsV R_Terms 91 R_Terms y_Terms_kid (Cond.code y_Terms_kid b_Terms_kid 3 (some .int) :: x_T)) := xgoodV ml_Terms_91 im_Terms_kid sl_Terms_kid in_Terms cd_Terms_kid
set_option maxRecDepth 100000 in
theorem ml_Terms_95 : Cond.methodLink R_Terms 95 y_Row_add ∈ x_T := xmem2 220 rfl rfl
set_option maxRecDepth 100000 in
theorem gl_Terms_95 (w0 : Cond) : GoodIn (w0 :: x_T) (wsV R_Terms 95 R_Row y_Row_add (Cond.code y_Row_add b_Row_add 2 none :: x_T)) := xgoodV ml_Terms_95 im_Row_add sl_Row_add in_Row cd_Row_add
set_option maxRecDepth 100000 in
theorem ml_Terms_99 : Cond.methodLink R_Terms 99 y_Row_size ∈ x_T := xmem3 0 rfl rfl
set_option maxRecDepth 100000 in
theorem gl_Terms_99 (w0 : Cond) : GoodIn (w0 :: x_T) (wsV R_Terms 99 R_Row y_Row_size (Cond.code y_Row_size b_Row_size 1 (some .int) :: x_T)) := xgoodV ml_Terms_99 im_Row_size sl_Row_size in_Row cd_Row_size
set_option maxRecDepth 100000 in
theorem ml_Terms_102 : Cond.methodLink R_Terms 102 y_Row_get ∈ x_T := xmem3 4 rfl rfl
set_option maxRecDepth 100000 in
theorem gl_Terms_102 (w0 : Cond) : GoodIn (w0 :: x_T) (wsV R_Terms 102 R_Row y_Row_get (Cond.code y_Row_get b_Row_get 2 (some .int) :: x_T)) := xgoodV ml_Terms_102 im_Row_get sl_Row_get in_Row cd_Row_get
set_option maxRecDepth 100000 in
theorem ml_Terms_106 : Cond.methodLink R_Terms 106 y_Terms_node ∈ x_T := xmem3 8 rfl rfl
set_option maxRecDepth 100000 in
theorem gl_Terms_106 (w0 : Cond) : GoodIn (w0 :: x_T) (wsV R_Terms 106 R_Terms y_Terms_node (Cond.code y_Terms_node b_Terms_node 6 (some .int) :: x_T)) := xgoodV ml_Terms_106 im_Terms_node sl_Terms_node in_Terms cd_Terms_node
set_option maxRecDepth 100000 in
theorem ml_Terms_110 : Cond.methodLink R_Terms 110 y_Gathering_begin ∈ x_T := xmem3 32 rfl rfl
set_option maxRecDepth 100000 in
theorem gl_Terms_110 (w0 : Cond) : GoodIn (w0 :: x_T) (wsV R_Terms 110 R_Gathering y_Gathering_begin (Cond.code y_Gathering_begin b_Gathering_begin 2 none :: x_T)) := xgoodV ml_Terms_110 im_Gathering_begin sl_Gathering_begin in_Gathering cd_Gathering_begin
set_option maxRecDepth 100000 in
theorem ml_Terms_113 : Cond.methodLink R_Terms 113 y_Terms_gather ∈ x_T := xmem3 37 rfl rfl
set_option maxRecDepth 100000 in
theorem gl_Terms_113 (w0 : Cond) : GoodIn (w0 :: x_T) (wsV R_Terms 113 R_Terms y_Terms_gather (Cond.code y_Terms_gather b_Terms_gather 4 none :: x_T)) := xgoodV ml_Terms_113 im_Terms_gather sl_Terms_gather in_Terms cd_Terms_gather
set_option maxRecDepth 100000 in
theorem ml_Terms_117 : Cond.methodLink R_Terms 117 y_Terms_gathered ∈ x_T := xmem3 61 rfl rfl
set_option maxRecDepth 100000 in
theorem gl_Terms_117 (w0 : Cond) : GoodIn (w0 :: x_T) (wsV R_Terms 117 R_Terms y_Terms_gathered (Cond.code y_Terms_gathered b_Terms_gathered 3 (some .int) :: x_T)) := xgoodV ml_Terms_117 im_Terms_gathered sl_Terms_gathered in_Terms cd_Terms_gathered
set_option maxRecDepth 100000 in
theorem ml_Terms_120 : Cond.methodLink R_Terms 120 y_Row_dropLast ∈ x_T := xmem3 101 rfl rfl
set_option maxRecDepth 100000 in
theorem gl_Terms_120 (w0 : Cond) : GoodIn (w0 :: x_T) (wsV R_Terms 120 R_Row y_Row_dropLast (Cond.code y_Row_dropLast b_Row_dropLast 1 none :: x_T)) := xgoodV ml_Terms_120 im_Row_dropLast sl_Row_dropLast in_Row cd_Row_dropLast
set_option maxRecDepth 100000 in
theorem ml_Terms_123 : Cond.methodLink R_Terms 123 y_Terms_asksForMore ∈ x_T := xmem3 105 rfl rfl
set_option maxRecDepth 100000 in
theorem gl_Terms_123 (w0 : Cond) : GoodIn (w0 :: x_T) (wsV R_Terms 123 R_Terms y_Terms_asksForMore (Cond.code y_Terms_asksForMore b_Terms_asksForMore 8 (some .boolean) :: x_T)) := xgoodV ml_Terms_123 im_Terms_asksForMore sl_Terms_asksForMore in_Terms cd_Terms_asksForMore
set_option maxRecDepth 100000 in
theorem ml_Terms_127 : Cond.methodLink R_Terms 127 y_Terms_combined ∈ x_T := xmem3 109 rfl rfl
set_option maxRecDepth 100000 in
theorem gl_Terms_127 (w0 : Cond) : GoodIn (w0 :: x_T) (wsV R_Terms 127 R_Terms y_Terms_combined (Cond.code y_Terms_combined b_Terms_combined 5 (some .int) :: x_T)) := xgoodV ml_Terms_127 im_Terms_combined sl_Terms_combined in_Terms cd_Terms_combined
set_option maxRecDepth 100000 in
theorem ml_Terms_130 : Cond.methodLink R_Terms 130 y_Terms_kidAfter ∈ x_T := xmem3 113 rfl rfl
set_option maxRecDepth 100000 in
theorem gl_Terms_130 (w0 : Cond) : GoodIn (w0 :: x_T) (wsV R_Terms 130 R_Terms y_Terms_kidAfter (Cond.code y_Terms_kidAfter b_Terms_kidAfter 4 (some .int) :: x_T)) := xgoodV ml_Terms_130 im_Terms_kidAfter sl_Terms_kidAfter in_Terms cd_Terms_kidAfter
set_option maxRecDepth 100000 in
theorem ml_Terms_134 : Cond.methodLink R_Terms 134 y_Terms_cat ∈ x_T := xmem3 117 rfl rfl
set_option maxRecDepth 100000 in
theorem gl_Terms_134 (w0 : Cond) : GoodIn (w0 :: x_T) (wsV R_Terms 134 R_Terms y_Terms_cat (Cond.code y_Terms_cat b_Terms_cat 6 (some .int) :: x_T)) := xgoodV ml_Terms_134 im_Terms_cat sl_Terms_cat in_Terms cd_Terms_cat
set_option maxRecDepth 100000 in
theorem ml_Terms_137 : Cond.methodLink R_Terms 137 y_Terms_not ∈ x_T := xmem3 118 rfl rfl
set_option maxRecDepth 100000 in
theorem gl_Terms_137 (w0 : Cond) : GoodIn (w0 :: x_T) (wsV R_Terms 137 R_Terms y_Terms_not (Cond.code y_Terms_not b_Terms_not 2 (some .int) :: x_T)) := xgoodV ml_Terms_137 im_Terms_not sl_Terms_not in_Terms cd_Terms_not
set_option maxRecDepth 100000 in
theorem ml_Terms_140 : Cond.methodLink R_Terms 140 y_Gathering_take ∈ x_T := xmem3 41 rfl rfl
set_option maxRecDepth 100000 in
theorem gl_Terms_140 (w0 : Cond) : GoodIn (w0 :: x_T) (wsV R_Terms 140 R_Gathering y_Gathering_take (Cond.code y_Gathering_take b_Gathering_take 2 none :: x_T)) := xgoodV ml_Terms_140 im_Gathering_take sl_Gathering_take in_Gathering cd_Gathering_take
set_option maxRecDepth 100000 in
theorem ml_Terms_143 : Cond.methodLink R_Terms 143 y_Gathering_single ∈ x_T := xmem3 65 rfl rfl
set_option maxRecDepth 100000 in
theorem gl_Terms_143 (w0 : Cond) : GoodIn (w0 :: x_T) (wsV R_Terms 143 R_Gathering y_Gathering_single (Cond.code y_Gathering_single b_Gathering_single 1 (some .int) :: x_T)) := xgoodV ml_Terms_143 im_Gathering_single sl_Gathering_single in_Gathering cd_Gathering_single
set_option maxRecDepth 100000 in
theorem ml_Terms_146 : Cond.methodLink R_Terms 146 y_Gathering_own ∈ x_T := xmem3 71 rfl rfl
set_option maxRecDepth 100000 in
theorem gl_Terms_146 (w0 : Cond) : GoodIn (w0 :: x_T) (wsV R_Terms 146 R_Gathering y_Gathering_own (Cond.code y_Gathering_own b_Gathering_own 1 (some (.object "DerivativeDesk$Row")) :: x_T)) := xgoodV ml_Terms_146 im_Gathering_own sl_Gathering_own in_Gathering cd_Gathering_own
set_option maxRecDepth 100000 in
theorem ml_Terms_151 : Cond.methodLink R_Terms 151 y_Terms_hasJust ∈ x_T := xmem3 12 rfl rfl
set_option maxRecDepth 100000 in
theorem gl_Terms_151 (w0 : Cond) : GoodIn (w0 :: x_T) (wsV R_Terms 151 R_Terms y_Terms_hasJust (Cond.code y_Terms_hasJust b_Terms_hasJust 4 (some .boolean) :: x_T)) := xgoodV ml_Terms_151 im_Terms_hasJust sl_Terms_hasJust in_Terms cd_Terms_hasJust
set_option maxRecDepth 100000 in
theorem ml_Terms_155 : Cond.methodLink R_Terms 155 y_Terms_makeRoom ∈ x_T := xmem3 16 rfl rfl
set_option maxRecDepth 100000 in
theorem gl_Terms_155 (w0 : Cond) : GoodIn (w0 :: x_T) (wsV R_Terms 155 R_Terms y_Terms_makeRoom (Cond.code y_Terms_makeRoom b_Terms_makeRoom 3 none :: x_T)) := xgoodV ml_Terms_155 im_Terms_makeRoom sl_Terms_makeRoom in_Terms cd_Terms_makeRoom
set_option maxRecDepth 100000 in
theorem ml_Terms_158 : Cond.methodLink R_Terms 158 y_Terms_addNode ∈ x_T := xmem3 21 rfl rfl
set_option maxRecDepth 100000 in
theorem gl_Terms_158 (w0 : Cond) : GoodIn (w0 :: x_T) (wsV R_Terms 158 R_Terms y_Terms_addNode (Cond.code y_Terms_addNode b_Terms_addNode 9 (some .int) :: x_T)) := xgoodV ml_Terms_158 im_Terms_addNode sl_Terms_addNode in_Terms cd_Terms_addNode
set_option maxRecDepth 100000 in
theorem ml_Terms_162 : Cond.methodLink R_Terms 162 y_Terms_isNullableWith ∈ x_T := xmem3 25 rfl rfl
set_option maxRecDepth 100000 in
theorem gl_Terms_162 (w0 : Cond) : GoodIn (w0 :: x_T) (Cond.code y_Terms_isNullableWith b_Terms_isNullableWith 3 (some .boolean) :: x_T) := xgood cd_Terms_isNullableWith
set_option maxRecDepth 100000 in
theorem ml_Terms_170 : Cond.methodLink R_Terms 170 y_Terms_markRow ∈ x_T := xmem2 179 rfl rfl
set_option maxRecDepth 100000 in
theorem gl_Terms_170 (w0 : Cond) : GoodIn (w0 :: x_T) (wsV R_Terms 170 R_Terms y_Terms_markRow (Cond.code y_Terms_markRow b_Terms_markRow 4 none :: x_T)) := xgoodV ml_Terms_170 im_Terms_markRow sl_Terms_markRow in_Terms cd_Terms_markRow
set_option maxRecDepth 100000 in
theorem ml_Terms_173 : Cond.methodLink R_Terms 173 y_Terms_markKids ∈ x_T := xmem2 183 rfl rfl
set_option maxRecDepth 100000 in
theorem gl_Terms_173 (w0 : Cond) : GoodIn (w0 :: x_T) (wsV R_Terms 173 R_Terms y_Terms_markKids (Cond.code y_Terms_markKids b_Terms_markKids 3 none :: x_T)) := xgoodV ml_Terms_173 im_Terms_markKids sl_Terms_markKids in_Terms cd_Terms_markKids
set_option maxRecDepth 100000 in
theorem ml_Terms_176 : Cond.methodLink R_Terms 176 y_Terms_numberMarked ∈ x_T := xmem2 191 rfl rfl
set_option maxRecDepth 100000 in
theorem gl_Terms_176 (w0 : Cond) : GoodIn (w0 :: x_T) (wsV R_Terms 176 R_Terms y_Terms_numberMarked (Cond.code y_Terms_numberMarked b_Terms_numberMarked 3 none :: x_T)) := xgoodV ml_Terms_176 im_Terms_numberMarked sl_Terms_numberMarked in_Terms cd_Terms_numberMarked
set_option maxRecDepth 100000 in
theorem ml_Terms_179 : Cond.methodLink R_Terms 179 y_Terms_moveMarked ∈ x_T := xmem2 195 rfl rfl
set_option maxRecDepth 100000 in
theorem gl_Terms_179 (w0 : Cond) : GoodIn (w0 :: x_T) (wsV R_Terms 179 R_Terms y_Terms_moveMarked (Cond.code y_Terms_moveMarked b_Terms_moveMarked 3 none :: x_T)) := xgoodV ml_Terms_179 im_Terms_moveMarked sl_Terms_moveMarked in_Terms cd_Terms_moveMarked
set_option maxRecDepth 100000 in
theorem ml_Terms_182 : Cond.methodLink R_Terms 182 y_Terms_renumber ∈ x_T := xmem2 204 rfl rfl
set_option maxRecDepth 100000 in
theorem gl_Terms_182 (w0 : Cond) : GoodIn (w0 :: x_T) (wsV R_Terms 182 R_Terms y_Terms_renumber (Cond.code y_Terms_renumber b_Terms_renumber 4 none :: x_T)) := xgoodV ml_Terms_182 im_Terms_renumber sl_Terms_renumber in_Terms cd_Terms_renumber
set_option maxRecDepth 100000 in
theorem ml_Terms_190 : Cond.methodLink R_Terms 190 y_Terms_move ∈ x_T := xmem2 199 rfl rfl
set_option maxRecDepth 100000 in
theorem gl_Terms_190 (w0 : Cond) : GoodIn (w0 :: x_T) (wsV R_Terms 190 R_Terms y_Terms_move (Cond.code y_Terms_move b_Terms_move 7 none :: x_T)) := xgoodV ml_Terms_190 im_Terms_move sl_Terms_move in_Terms cd_Terms_move
set_option maxRecDepth 100000 in
theorem ml_WordCheck_35 : Cond.methodLink R_WordCheck 35 y_WordCheck_arrange ∈ x_T := xmem3 137 rfl rfl
set_option maxRecDepth 100000 in
theorem gl_WordCheck_35 (w0 : Cond) : GoodIn (w0 :: x_T) (wsV R_WordCheck 35 R_WordCheck y_WordCheck_arrange (Cond.code y_WordCheck_arrange b_WordCheck_arrange 5 none :: x_T)) := xgoodV ml_WordCheck_35 im_WordCheck_arrange sl_WordCheck_arrange in_WordCheck cd_WordCheck_arrange
set_option maxRecDepth 100000 in
theorem ml_WordCheck_39 : Cond.methodLink R_WordCheck 39 y_WordCheck_endsFrom ∈ x_T := xmem3 168 rfl rfl
set_option maxRecDepth 100000 in
theorem gl_WordCheck_39 (w0 : Cond) : GoodIn (w0 :: x_T) (wsV R_WordCheck 39 R_WordCheck y_WordCheck_endsFrom (Cond.code y_WordCheck_endsFrom b_WordCheck_endsFrom 7 (some .int) :: x_T)) := xgoodV ml_WordCheck_39 im_WordCheck_endsFrom sl_WordCheck_endsFrom in_WordCheck cd_WordCheck_endsFrom
set_option maxRecDepth 100000 in
theorem ml_WordCheck_43 : Cond.methodLink R_WordCheck 43 y_WordCheck_endBitsOf ∈ x_T := xmem3 180 rfl rfl
set_option maxRecDepth 100000 in
theorem gl_WordCheck_43 (w0 : Cond) : GoodIn (w0 :: x_T) (wsV R_WordCheck 43 R_WordCheck y_WordCheck_endBitsOf (Cond.code y_WordCheck_endBitsOf b_WordCheck_endBitsOf 4 (some .int) :: x_T)) := xgoodV ml_WordCheck_43 im_WordCheck_endBitsOf sl_WordCheck_endBitsOf in_WordCheck cd_WordCheck_endBitsOf
set_option maxRecDepth 100000 in
theorem ml_WordCheck_46 : Cond.methodLink R_WordCheck 46 y_Row_clear ∈ x_T := xmem3 141 rfl rfl
set_option maxRecDepth 100000 in
theorem gl_WordCheck_46 (w0 : Cond) : GoodIn (w0 :: x_T) (wsV R_WordCheck 46 R_Row y_Row_clear (Cond.code y_Row_clear b_Row_clear 1 none :: x_T)) := xgoodV ml_WordCheck_46 im_Row_clear sl_Row_clear in_Row cd_Row_clear
set_option maxRecDepth 100000 in
theorem ml_WordCheck_49 : Cond.methodLink R_WordCheck 49 y_Row_add ∈ x_T := xmem3 142 rfl rfl
set_option maxRecDepth 100000 in
theorem gl_WordCheck_49 (w0 : Cond) : GoodIn (w0 :: x_T) (wsV R_WordCheck 49 R_Row y_Row_add (Cond.code y_Row_add b_Row_add 2 none :: x_T)) := xgoodV ml_WordCheck_49 im_Row_add sl_Row_add in_Row cd_Row_add
set_option maxRecDepth 100000 in
theorem ml_WordCheck_54 : Cond.methodLink R_WordCheck 54 y_Row_size ∈ x_T := xmem3 144 rfl rfl
set_option maxRecDepth 100000 in
theorem gl_WordCheck_54 (w0 : Cond) : GoodIn (w0 :: x_T) (wsV R_WordCheck 54 R_Row y_Row_size (Cond.code y_Row_size b_Row_size 1 (some .int) :: x_T)) := xgoodV ml_WordCheck_54 im_Row_size sl_Row_size in_Row cd_Row_size
set_option maxRecDepth 100000 in
theorem ml_WordCheck_58 : Cond.methodLink R_WordCheck 58 y_Row_get ∈ x_T := xmem3 145 rfl rfl
set_option maxRecDepth 100000 in
theorem gl_WordCheck_58 (w0 : Cond) : GoodIn (w0 :: x_T) (wsV R_WordCheck 58 R_Row y_Row_get (Cond.code y_Row_get b_Row_get 2 (some .int) :: x_T)) := xgoodV ml_WordCheck_58 im_Row_get sl_Row_get in_Row cd_Row_get
set_option maxRecDepth 100000 in
theorem ml_WordCheck_62 : Cond.methodLink R_WordCheck 62 y_WordCheck_isArranged ∈ x_T := xmem3 146 rfl rfl
set_option maxRecDepth 100000 in
theorem gl_WordCheck_62 (w0 : Cond) : GoodIn (w0 :: x_T) (wsV R_WordCheck 62 R_WordCheck y_WordCheck_isArranged (Cond.code y_WordCheck_isArranged b_WordCheck_isArranged 4 (some .boolean) :: x_T)) := xgoodV ml_WordCheck_62 im_WordCheck_isArranged sl_WordCheck_isArranged in_WordCheck cd_WordCheck_isArranged
set_option maxRecDepth 100000 in
theorem ml_WordCheck_66 : Cond.methodLink R_WordCheck 66 y_Row_dropLast ∈ x_T := xmem3 154 rfl rfl
set_option maxRecDepth 100000 in
theorem gl_WordCheck_66 (w0 : Cond) : GoodIn (w0 :: x_T) (wsV R_WordCheck 66 R_Row y_Row_dropLast (Cond.code y_Row_dropLast b_Row_dropLast 1 none :: x_T)) := xgoodV ml_WordCheck_66 im_Row_dropLast sl_Row_dropLast in_Row cd_Row_dropLast
set_option maxRecDepth 100000 in
theorem ml_WordCheck_69 : Cond.methodLink R_WordCheck 69 y_WordCheck_asksForMore ∈ x_T := xmem3 155 rfl rfl
set_option maxRecDepth 100000 in
theorem gl_WordCheck_69 (w0 : Cond) : GoodIn (w0 :: x_T) (wsV R_WordCheck 69 R_WordCheck y_WordCheck_asksForMore (Cond.code y_WordCheck_asksForMore b_WordCheck_asksForMore 5 (some .boolean) :: x_T)) := xgoodV ml_WordCheck_69 im_WordCheck_asksForMore sl_WordCheck_asksForMore in_WordCheck cd_WordCheck_asksForMore
set_option maxRecDepth 100000 in
theorem ml_WordCheck_72 : Cond.methodLink R_WordCheck 72 y_Terms_setTag ∈ x_T := xmem3 164 rfl rfl
set_option maxRecDepth 100000 in
theorem gl_WordCheck_72 (w0 : Cond) : GoodIn (w0 :: x_T) (wsV R_WordCheck 72 R_Terms y_Terms_setTag (Cond.code y_Terms_setTag b_Terms_setTag 3 none :: x_T)) := xgoodV ml_WordCheck_72 im_Terms_setTag sl_Terms_setTag in_Terms cd_Terms_setTag
set_option maxRecDepth 100000 in
theorem ml_WordCheck_78 : Cond.methodLink R_WordCheck 78 y_Terms_tagOf ∈ x_T := xmem3 150 rfl rfl
set_option maxRecDepth 100000 in
theorem gl_WordCheck_78 (w0 : Cond) : GoodIn (w0 :: x_T) (wsV R_WordCheck 78 R_Terms y_Terms_tagOf (Cond.code y_Terms_tagOf b_Terms_tagOf 2 (some .int) :: x_T)) := xgoodV ml_WordCheck_78 im_Terms_tagOf sl_Terms_tagOf in_Terms cd_Terms_tagOf
set_option maxRecDepth 100000 in
theorem ml_WordCheck_81 : Cond.methodLink R_WordCheck 81 y_Terms_countOf ∈ x_T := xmem3 159 rfl rfl
set_option maxRecDepth 100000 in
theorem gl_WordCheck_81 (w0 : Cond) : GoodIn (w0 :: x_T) (wsV R_WordCheck 81 R_Terms y_Terms_countOf (Cond.code y_Terms_countOf b_Terms_countOf 2 (some .int) :: x_T)) := xgoodV ml_WordCheck_81 im_Terms_countOf sl_Terms_countOf in_Terms cd_Terms_countOf
set_option maxRecDepth 100000 in
theorem ml_WordCheck_84 : Cond.methodLink R_WordCheck 84 y_Terms_kid ∈ x_T := xmem3 163 rfl rfl
set_option maxRecDepth 100000 in
theorem gl_WordCheck_84 (w0 : Cond) : GoodIn (w0 :: x_T) (wsV R_WordCheck 84 R_Terms y_Terms_kid (Cond.code y_Terms_kid b_Terms_kid 3 (some .int) :: x_T)) := xgoodV ml_WordCheck_84 im_Terms_kid sl_Terms_kid in_Terms cd_Terms_kid
set_option maxRecDepth 100000 in
theorem ml_WordCheck_88 : Cond.methodLink R_WordCheck 88 y_Terms_sortOf ∈ x_T := xmem3 172 rfl rfl
set_option maxRecDepth 100000 in
theorem gl_WordCheck_88 (w0 : Cond) : GoodIn (w0 :: x_T) (wsV R_WordCheck 88 R_Terms y_Terms_sortOf (Cond.code y_Terms_sortOf b_Terms_sortOf 2 (some .int) :: x_T)) := xgoodV ml_WordCheck_88 im_Terms_sortOf sl_Terms_sortOf in_Terms cd_Terms_sortOf
set_option maxRecDepth 100000 in
theorem ml_WordCheck_91 : Cond.methodLink R_WordCheck 91 y_WordCheck_letterAt ∈ x_T := xmem3 176 rfl rfl
set_option maxRecDepth 100000 in
theorem gl_WordCheck_91 (w0 : Cond) : GoodIn (w0 :: x_T) (wsV R_WordCheck 91 R_WordCheck y_WordCheck_letterAt (Cond.code y_WordCheck_letterAt b_WordCheck_letterAt 2 (some .int) :: x_T)) := xgoodV ml_WordCheck_91 im_WordCheck_letterAt sl_WordCheck_letterAt in_WordCheck cd_WordCheck_letterAt
set_option maxRecDepth 100000 in
theorem ml_WordCheck_94 : Cond.methodLink R_WordCheck 94 y_WordCheck_goneOn ∈ x_T := xmem3 184 rfl rfl
set_option maxRecDepth 100000 in
theorem gl_WordCheck_94 (w0 : Cond) : GoodIn (w0 :: x_T) (wsV R_WordCheck 94 R_WordCheck y_WordCheck_goneOn (Cond.code y_WordCheck_goneOn b_WordCheck_goneOn 6 (some .int) :: x_T)) := xgoodV ml_WordCheck_94 im_WordCheck_goneOn sl_WordCheck_goneOn in_WordCheck cd_WordCheck_goneOn
set_option maxRecDepth 100000 in
theorem ml_WordCheck_97 : Cond.methodLink R_WordCheck 97 y_WordCheck_merged ∈ x_T := xmem3 188 rfl rfl
set_option maxRecDepth 100000 in
theorem gl_WordCheck_97 (w0 : Cond) : GoodIn (w0 :: x_T) (wsV R_WordCheck 97 R_WordCheck y_WordCheck_merged (Cond.code y_WordCheck_merged b_WordCheck_merged 7 (some .int) :: x_T)) := xgoodV ml_WordCheck_97 im_WordCheck_merged sl_WordCheck_merged in_WordCheck cd_WordCheck_merged
set_option maxRecDepth 100000 in
theorem ml_WordCounts_22 : Cond.methodLink R_WordCounts 22 y_WordCounts_fill ∈ x_T := xmem4 78 rfl rfl
set_option maxRecDepth 100000 in
theorem gl_WordCounts_22 (w0 : Cond) : GoodIn (w0 :: x_T) (wsV R_WordCounts 22 R_WordCounts y_WordCounts_fill (Cond.code y_WordCounts_fill b_WordCounts_fill 8 none :: x_T)) := xgoodV ml_WordCounts_22 im_WordCounts_fill sl_WordCounts_fill in_WordCounts cd_WordCounts_fill
set_option maxRecDepth 100000 in
theorem ml_WordCounts_26 : Cond.methodLink R_WordCounts 26 y_Machine_count ∈ x_T := xmem4 82 rfl rfl
set_option maxRecDepth 100000 in
theorem gl_WordCounts_26 (w0 : Cond) : GoodIn (w0 :: x_T) (wsV R_WordCounts 26 R_Machine y_Machine_count (Cond.code y_Machine_count b_Machine_count 1 (some .int) :: x_T)) := xgoodV ml_WordCounts_26 im_Machine_count sl_Machine_count in_Machine cd_Machine_count
set_option maxRecDepth 100000 in
theorem ml_WordCounts_32 : Cond.methodLink R_WordCounts 32 y_Machine_isAccepting ∈ x_T := xmem4 83 rfl rfl
set_option maxRecDepth 100000 in
theorem gl_WordCounts_32 (w0 : Cond) : GoodIn (w0 :: x_T) (wsV R_WordCounts 32 R_Machine y_Machine_isAccepting (Cond.code y_Machine_isAccepting b_Machine_isAccepting 2 (some .boolean) :: x_T)) := xgoodV ml_WordCounts_32 im_Machine_isAccepting sl_Machine_isAccepting in_Machine cd_Machine_isAccepting
set_option maxRecDepth 100000 in
theorem ml_WordCounts_36 : Cond.methodLink R_WordCounts 36 y_Machine_next ∈ x_T := xmem4 84 rfl rfl
set_option maxRecDepth 100000 in
theorem gl_WordCounts_36 (w0 : Cond) : GoodIn (w0 :: x_T) (wsV R_WordCounts 36 R_Machine y_Machine_next (Cond.code y_Machine_next b_Machine_next 3 (some .int) :: x_T)) := xgoodV ml_WordCounts_36 im_Machine_next sl_Machine_next in_Machine cd_Machine_next
set_option maxRecDepth 100000 in
theorem ml_WordCounts_44 : Cond.methodLink R_WordCounts 44 y_WordCounts_wordOfLength ∈ x_T := xmem4 113 rfl rfl
set_option maxRecDepth 100000 in
theorem gl_WordCounts_44 (w0 : Cond) : GoodIn (w0 :: x_T) (wsV R_WordCounts 44 R_WordCounts y_WordCounts_wordOfLength (Cond.code y_WordCounts_wordOfLength b_WordCounts_wordOfLength 14 (some .long) :: x_T)) := xgoodV ml_WordCounts_44 im_WordCounts_wordOfLength sl_WordCounts_wordOfLength in_WordCounts cd_WordCounts_wordOfLength
set_option maxRecDepth 100000 in
theorem ml_WordCounts_48 : Cond.methodLink R_WordCounts 48 y_WordCounts_stepBack ∈ x_T := xmem4 96 rfl rfl
set_option maxRecDepth 100000 in
theorem gl_WordCounts_48 (w0 : Cond) : GoodIn (w0 :: x_T) (wsV R_WordCounts 48 R_WordCounts y_WordCounts_stepBack (Cond.code y_WordCounts_stepBack b_WordCounts_stepBack 6 (some .boolean) :: x_T)) := xgoodV ml_WordCounts_48 im_WordCounts_stepBack sl_WordCounts_stepBack in_WordCounts cd_WordCounts_stepBack
set_option maxRecDepth 100000 in
theorem ml_Mo_96 : Cond.methodLink R_Mo 96 y_Mo_sort ∈ x_T := xmem5 13 rfl rfl
set_option maxRecDepth 100000 in
theorem gl_Mo_96 (w0 : Cond) : GoodIn (w0 :: x_T) (Cond.code y_Mo_sort b_Mo_sort 1 (some .int) :: x_T) := xgood cd_Mo_sort
set_option maxRecDepth 100000 in
theorem ml_Mo_100 : Cond.methodLink R_Mo 100 y_Mo_arity ∈ x_T := xmem5 19 rfl rfl
set_option maxRecDepth 100000 in
theorem gl_Mo_100 (w0 : Cond) : GoodIn (w0 :: x_T) (Cond.code y_Mo_arity b_Mo_arity 1 (some .int) :: x_T) := xgood cd_Mo_arity
set_option maxRecDepth 100000 in
theorem ml_Mo_103 : Cond.methodLink R_Mo 103 y_Mo_length ∈ x_T := xmem5 16 rfl rfl
set_option maxRecDepth 100000 in
theorem gl_Mo_103 (w0 : Cond) : GoodIn (w0 :: x_T) (Cond.code y_Mo_length b_Mo_length 4 (some .int) :: x_T) := xgood cd_Mo_length
set_option maxRecDepth 100000 in
theorem ml_Mo_110 : Cond.methodLink R_Mo 110 y_Mo_isAll ∈ x_T := xmem5 30 rfl rfl
set_option maxRecDepth 100000 in
theorem gl_Mo_110 (w0 : Cond) : GoodIn (w0 :: x_T) (wsV R_Mo 110 R_Mo y_Mo_isAll (Cond.code y_Mo_isAll b_Mo_isAll 2 (some .boolean) :: x_T)) := xgoodV ml_Mo_110 im_Mo_isAll sl_Mo_isAll in_Mo cd_Mo_isAll
set_option maxRecDepth 100000 in
theorem ml_Mo_114 : Cond.methodLink R_Mo 114 y_Mo_simple ∈ x_T := xmem5 34 rfl rfl
set_option maxRecDepth 100000 in
theorem gl_Mo_114 (w0 : Cond) : GoodIn (w0 :: x_T) (wsV R_Mo 114 R_Mo y_Mo_simple (Cond.code y_Mo_simple b_Mo_simple 3 (some .int) :: x_T)) := xgoodV ml_Mo_114 im_Mo_simple sl_Mo_simple in_Mo cd_Mo_simple
set_option maxRecDepth 100000 in
theorem ml_Mo_121 : Cond.methodLink R_Mo 121 y_Mo_order ∈ x_T := xmem5 38 rfl rfl
set_option maxRecDepth 100000 in
theorem gl_Mo_121 (w0 : Cond) : GoodIn (w0 :: x_T) (wsV R_Mo 121 R_Mo y_Mo_order (Cond.code y_Mo_order b_Mo_order 8 (some .int) :: x_T)) := xgoodV ml_Mo_121 im_Mo_order sl_Mo_order in_Mo cd_Mo_order
set_option maxRecDepth 100000 in
theorem ml_Mo_124 : Cond.methodLink R_Mo 124 y_Mo_compare ∈ x_T := xmem5 42 rfl rfl
set_option maxRecDepth 100000 in
theorem gl_Mo_124 (w0 : Cond) : GoodIn (w0 :: x_T) (Cond.code y_Mo_compare b_Mo_compare 6 (some .int) :: x_T) := xgood cd_Mo_compare
set_option maxRecDepth 100000 in
theorem ml_Mo_131 : Cond.methodLink R_Mo 131 y_Mo_place ∈ x_T := xmem5 61 rfl rfl
set_option maxRecDepth 100000 in
theorem gl_Mo_131 (w0 : Cond) : GoodIn (w0 :: x_T) (wsV R_Mo 131 R_Mo y_Mo_place (Cond.code y_Mo_place b_Mo_place 6 none :: x_T)) := xgoodV ml_Mo_131 im_Mo_place sl_Mo_place in_Mo cd_Mo_place
set_option maxRecDepth 100000 in
theorem ml_Mo_135 : Cond.methodLink R_Mo 135 y_Mo_not ∈ x_T := xmem5 49 rfl rfl
set_option maxRecDepth 100000 in
theorem gl_Mo_135 (w0 : Cond) : GoodIn (w0 :: x_T) (wsV R_Mo 135 R_Mo y_Mo_not (Cond.code y_Mo_not b_Mo_not 4 (some .int) :: x_T)) := xgoodV ml_Mo_135 im_Mo_not sl_Mo_not in_Mo cd_Mo_not
set_option maxRecDepth 100000 in
theorem ml_Mo_139 : Cond.methodLink R_Mo 139 y_Mo_cat ∈ x_T := xmem5 9 rfl rfl
set_option maxRecDepth 100000 in
theorem gl_Mo_139 (w0 : Cond) : GoodIn (w0 :: x_T) (wsV R_Mo 139 R_Mo y_Mo_cat (Cond.code y_Mo_cat b_Mo_cat 13 (some .int) :: x_T)) := xgoodV ml_Mo_139 im_Mo_cat sl_Mo_cat in_Mo cd_Mo_cat
set_option maxRecDepth 100000 in
theorem ml_Mo_143 : Cond.methodLink R_Mo 143 y_Mo_both ∈ x_T := xmem5 65 rfl rfl
set_option maxRecDepth 100000 in
theorem gl_Mo_143 (w0 : Cond) : GoodIn (w0 :: x_T) (wsV R_Mo 143 R_Mo y_Mo_both (Cond.code y_Mo_both b_Mo_both 7 none :: x_T)) := xgoodV ml_Mo_143 im_Mo_both sl_Mo_both in_Mo cd_Mo_both
set_option maxRecDepth 100000 in
theorem ml_Mo_147 : Cond.methodLink R_Mo 147 y_Mo_several ∈ x_T := xmem5 69 rfl rfl
set_option maxRecDepth 100000 in
theorem gl_Mo_147 (w0 : Cond) : GoodIn (w0 :: x_T) (wsV R_Mo 147 R_Mo y_Mo_several (Cond.code y_Mo_several b_Mo_several 7 none :: x_T)) := xgoodV ml_Mo_147 im_Mo_several sl_Mo_several in_Mo cd_Mo_several
set_option maxRecDepth 100000 in
theorem ml_Mo_151 : Cond.methodLink R_Mo 151 y_Mo_part ∈ x_T := xmem5 22 rfl rfl
set_option maxRecDepth 100000 in
theorem gl_Mo_151 (w0 : Cond) : GoodIn (w0 :: x_T) (wsV R_Mo 151 R_Mo y_Mo_part (Cond.code y_Mo_part b_Mo_part 6 none :: x_T)) := xgoodV ml_Mo_151 im_Mo_part sl_Mo_part in_Mo cd_Mo_part
set_option maxRecDepth 100000 in
theorem ml_Mo_155 : Cond.methodLink R_Mo 155 y_Mo_unite ∈ x_T := xmem5 26 rfl rfl
set_option maxRecDepth 100000 in
theorem gl_Mo_155 (w0 : Cond) : GoodIn (w0 :: x_T) (wsV R_Mo 155 R_Mo y_Mo_unite (Cond.code y_Mo_unite b_Mo_unite 9 (some .int) :: x_T)) := xgoodV ml_Mo_155 im_Mo_unite sl_Mo_unite in_Mo cd_Mo_unite
set_option maxRecDepth 100000 in
theorem ml_Mo_158 : Cond.methodLink R_Mo 158 y_Mo_isSlot ∈ x_T := xmem4 234 rfl rfl
set_option maxRecDepth 100000 in
theorem gl_Mo_158 (w0 : Cond) : GoodIn (w0 :: x_T) (Cond.code y_Mo_isSlot b_Mo_isSlot 1 (some .boolean) :: x_T) := xgood cd_Mo_isSlot
set_option maxRecDepth 100000 in
theorem ml_Mo_161 : Cond.methodLink R_Mo 161 y_Mo_fails ∈ x_T := xmem4 237 rfl rfl
set_option maxRecDepth 100000 in
theorem gl_Mo_161 (w0 : Cond) : GoodIn (w0 :: x_T) (wsV R_Mo 161 R_Mo y_Mo_fails (Cond.code y_Mo_fails b_Mo_fails 3 (some .boolean) :: x_T)) := xgoodV ml_Mo_161 im_Mo_fails sl_Mo_fails in_Mo cd_Mo_fails
set_option maxRecDepth 100000 in
theorem ml_Mo_165 : Cond.methodLink R_Mo 165 y_Mo_keep ∈ x_T := xmem5 1 rfl rfl
set_option maxRecDepth 100000 in
theorem gl_Mo_165 (w0 : Cond) : GoodIn (w0 :: x_T) (wsV R_Mo 165 R_Mo y_Mo_keep (Cond.code y_Mo_keep b_Mo_keep 4 (some .int) :: x_T)) := xgoodV ml_Mo_165 im_Mo_keep sl_Mo_keep in_Mo cd_Mo_keep
set_option maxRecDepth 100000 in
theorem ml_Mo_168 : Cond.methodLink R_Mo 168 y_Mo_derived ∈ x_T := xmem5 57 rfl rfl
set_option maxRecDepth 100000 in
theorem gl_Mo_168 (w0 : Cond) : GoodIn (w0 :: x_T) (wsV R_Mo 168 R_Mo y_Mo_derived (Cond.code y_Mo_derived b_Mo_derived 7 (some .int) :: x_T)) := xgoodV ml_Mo_168 im_Mo_derived sl_Mo_derived in_Mo cd_Mo_derived
set_option maxRecDepth 100000 in
theorem ml_Mo_172 : Cond.methodLink R_Mo 172 y_Mo_same ∈ x_T := xmem5 77 rfl rfl
set_option maxRecDepth 100000 in
theorem gl_Mo_172 (w0 : Cond) : GoodIn (w0 :: x_T) (Cond.code y_Mo_same b_Mo_same 8 (some .boolean) :: x_T) := xgood cd_Mo_same
set_option maxRecDepth 100000 in
theorem ml_Mo_176 : Cond.methodLink R_Mo 176 y_Mo_match ∈ x_T := xmem5 84 rfl rfl
set_option maxRecDepth 100000 in
theorem gl_Mo_176 (w0 : Cond) : GoodIn (w0 :: x_T) (wsV R_Mo 176 R_Mo y_Mo_match (Cond.code y_Mo_match b_Mo_match 13 none :: x_T)) := xgoodV ml_Mo_176 im_Mo_match sl_Mo_match in_Mo cd_Mo_match
set_option maxRecDepth 100000 in
theorem ml_Mo_180 : Cond.methodLink R_Mo 180 y_Mo_known ∈ x_T := xmem5 96 rfl rfl
set_option maxRecDepth 100000 in
theorem gl_Mo_180 (w0 : Cond) : GoodIn (w0 :: x_T) (wsV R_Mo 180 R_Mo y_Mo_known (Cond.code y_Mo_known b_Mo_known 4 (some .int) :: x_T)) := xgoodV ml_Mo_180 im_Mo_known sl_Mo_known in_Mo cd_Mo_known
set_option maxRecDepth 100000 in
theorem ml_Mo_183 : Cond.methodLink R_Mo 183 y_Mo_explore ∈ x_T := xmem5 92 rfl rfl
set_option maxRecDepth 100000 in
theorem gl_Mo_183 (w0 : Cond) : GoodIn (w0 :: x_T) (wsV R_Mo 183 R_Mo y_Mo_explore (Cond.code y_Mo_explore b_Mo_explore 8 (some .int) :: x_T)) := xgoodV ml_Mo_183 im_Mo_explore sl_Mo_explore in_Mo cd_Mo_explore
set_option maxRecDepth 100000 in
theorem ml_Mo_186 : Cond.methodLink R_Mo 186 y_Mo_alike ∈ x_T := xmem5 104 rfl rfl
set_option maxRecDepth 100000 in
theorem gl_Mo_186 (w0 : Cond) : GoodIn (w0 :: x_T) (wsV R_Mo 186 R_Mo y_Mo_alike (Cond.code y_Mo_alike b_Mo_alike 5 (some .boolean) :: x_T)) := xgoodV ml_Mo_186 im_Mo_alike sl_Mo_alike in_Mo cd_Mo_alike
set_option maxRecDepth 100000 in
theorem ml_Mo_190 : Cond.methodLink R_Mo 190 y_Mo_tell ∈ x_T := xmem5 112 rfl rfl
set_option maxRecDepth 100000 in
theorem gl_Mo_190 (w0 : Cond) : GoodIn (w0 :: x_T) (wsV R_Mo 190 R_Mo y_Mo_tell (Cond.code y_Mo_tell b_Mo_tell 4 none :: x_T)) := xgoodV ml_Mo_190 im_Mo_tell sl_Mo_tell in_Mo cd_Mo_tell
set_option maxRecDepth 100000 in
theorem ml_Mo_196 : Cond.methodLink R_Mo 196 y_Mo_count ∈ x_T := xmem5 125 rfl rfl
set_option maxRecDepth 100000 in
theorem gl_Mo_196 (w0 : Cond) : GoodIn (w0 :: x_T) (wsV R_Mo 196 R_Mo y_Mo_count (Cond.code y_Mo_count b_Mo_count 7 none :: x_T)) := xgoodV ml_Mo_196 im_Mo_count sl_Mo_count in_Mo cd_Mo_count
set_option maxRecDepth 100000 in
theorem st_max : Cond.static Lib.Math.max.name ∈ x_T := xmem2 209 rfl rfl
set_option maxRecDepth 100000 in
theorem cd_max : Cond.code Lib.Math.max.name Lib.Math.max.code 2 (some .int) ∈ x_T := xmem2 210 rfl rfl
set_option maxRecDepth 100000 in
theorem ml_Splitter_53 : Cond.methodLink R_Splitter 53 ⟨"java/lang/System", "arraycopy", "(Ljava/lang/Object;ILjava/lang/Object;II)V"⟩ ∈ x_T := xmem4 27 rfl rfl
set_option maxRecDepth 100000 in
theorem ml_Row_17 : Cond.methodLink R_Row 17 ⟨"java/util/Arrays", "copyOf", "([II)[I"⟩ ∈ x_T := xmem2 224 rfl rfl
set_option maxRecDepth 100000 in
theorem ml_Terms_166 : Cond.methodLink R_Terms 166 ⟨"java/util/Arrays", "copyOf", "([II)[I"⟩ ∈ x_T := xmem3 20 rfl rfl
set_option maxRecDepth 100000 in
theorem ml_Terms_185 : Cond.methodLink R_Terms 185 ⟨"java/lang/Math", "max", "(II)I"⟩ ∈ x_T := xmem2 208 rfl rfl
