theorem fk_X8_10 : FLk RX8 10 8 0 := ⟨RX8, TX8, 6, _, rfl, inlX8, by decide, flX8_10, rfl⟩
theorem fk_X8_16 : FLk RX8 16 8 1 := ⟨RX8, TX8, 6, _, rfl, inlX8, by decide, flX8_16, rfl⟩
theorem fk_X8_22 : FLk RX8 22 8 2 := ⟨RX8, TX8, 6, _, rfl, inlX8, by decide, flX8_22, rfl⟩
theorem fk_X8_26 : FLk RX8 26 8 3 := ⟨RX8, TX8, 6, _, rfl, inlX8, by decide, flX8_26, rfl⟩
theorem fk_X8_33 : FLk RX8 33 8 4 := ⟨RX8, TX8, 6, _, rfl, inlX8, by decide, flX8_33, rfl⟩
theorem fk_X8_41 : FLk RX8 41 8 5 := ⟨RX8, TX8, 6, _, rfl, inlX8, by decide, flX8_41, rfl⟩
theorem fk_X3_18 : FLk RX3 18 3 0 := ⟨RX3, TX3, 12, _, rfl, inlX3, by decide, flX3_18, rfl⟩
theorem fk_X3_24 : FLk RX3 24 3 1 := ⟨RX3, TX3, 12, _, rfl, inlX3, by decide, flX3_24, rfl⟩
theorem fk_X3_30 : FLk RX3 30 3 2 := ⟨RX3, TX3, 12, _, rfl, inlX3, by decide, flX3_30, rfl⟩
theorem fk_X3_37 : FLk RX3 37 3 3 := ⟨RX3, TX3, 12, _, rfl, inlX3, by decide, flX3_37, rfl⟩
theorem fk_X3_44 : FLk RX3 44 3 4 := ⟨RX3, TX3, 12, _, rfl, inlX3, by decide, flX3_44, rfl⟩
theorem fk_X3_48 : FLk RX3 48 3 5 := ⟨RX3, TX3, 12, _, rfl, inlX3, by decide, flX3_48, rfl⟩
theorem fk_X3_51 : FLk RX3 51 3 6 := ⟨RX3, TX3, 12, _, rfl, inlX3, by decide, flX3_51, rfl⟩
theorem fk_X3_54 : FLk RX3 54 3 7 := ⟨RX3, TX3, 12, _, rfl, inlX3, by decide, flX3_54, rfl⟩
theorem fk_X3_57 : FLk RX3 57 3 8 := ⟨RX3, TX3, 12, _, rfl, inlX3, by decide, flX3_57, rfl⟩
theorem fk_X3_60 : FLk RX3 60 3 9 := ⟨RX3, TX3, 12, _, rfl, inlX3, by decide, flX3_60, rfl⟩
theorem fk_X3_63 : FLk RX3 63 3 10 := ⟨RX3, TX3, 12, _, rfl, inlX3, by decide, flX3_63, rfl⟩
theorem fk_X3_66 : FLk RX3 66 3 11 := ⟨RX3, TX3, 12, _, rfl, inlX3, by decide, flX3_66, rfl⟩
theorem fk_X6_7 : FLk RX6 7 6 0 := ⟨RX6, TX6, 1, _, rfl, inlX6, by decide, flX6_7, rfl⟩
theorem fk_X1_14 : FLk RX1 14 1 0 := ⟨RX1, TX1, 2, _, rfl, inlX1, by decide, flX1_14, rfl⟩
theorem fk_X1_20 : FLk RX1 20 1 1 := ⟨RX1, TX1, 2, _, rfl, inlX1, by decide, flX1_20, rfl⟩
theorem fk_X7_14 : FLk RX7 14 7 0 := ⟨RX7, TX7, 5, _, rfl, inlX7, by decide, flX7_14, rfl⟩
theorem fk_X7_20 : FLk RX7 20 7 1 := ⟨RX7, TX7, 5, _, rfl, inlX7, by decide, flX7_20, rfl⟩
theorem fk_X7_23 : FLk RX7 23 7 2 := ⟨RX7, TX7, 5, _, rfl, inlX7, by decide, flX7_23, rfl⟩
theorem fk_X7_26 : FLk RX7 26 7 3 := ⟨RX7, TX7, 5, _, rfl, inlX7, by decide, flX7_26, rfl⟩
theorem fk_X7_29 : FLk RX7 29 7 4 := ⟨RX7, TX7, 5, _, rfl, inlX7, by decide, flX7_29, rfl⟩
theorem fk_X0_14 : FLk RX0 14 0 0 := ⟨RX0, TX0, 5, _, rfl, inlX0, by decide, flX0_14, rfl⟩
theorem fk_X0_20 : FLk RX0 20 0 1 := ⟨RX0, TX0, 5, _, rfl, inlX0, by decide, flX0_20, rfl⟩
theorem fk_X0_23 : FLk RX0 23 0 2 := ⟨RX0, TX0, 5, _, rfl, inlX0, by decide, flX0_23, rfl⟩
theorem fk_X2_11 : FLk RX2 11 2 0 := ⟨RX2, TX2, 3, _, rfl, inlX2, by decide, flX2_11, rfl⟩
theorem fk_X4_12 : FLk RX4 12 4 0 := ⟨RX4, TX4, 7, _, rfl, inlX4, by decide, flX4_12, rfl⟩
theorem fk_X5_14 : FLk RX5 14 5 0 := ⟨RX5, TX5, 2, _, rfl, inlX5, by decide, flX5_14, rfl⟩
theorem fk_X9_7 : FLk RX9 7 9 0 := ⟨RX9, TX9, 14, _, rfl, inlX9, by decide, flX9_7, rfl⟩
theorem fk_X9_13 : FLk RX9 13 9 1 := ⟨RX9, TX9, 14, _, rfl, inlX9, by decide, flX9_13, rfl⟩
theorem fk_X9_16 : FLk RX9 16 9 4 := ⟨RX9, TX9, 14, _, rfl, inlX9, by decide, flX9_16, rfl⟩
theorem fk_X9_19 : FLk RX9 19 9 5 := ⟨RX9, TX9, 14, _, rfl, inlX9, by decide, flX9_19, rfl⟩
theorem fk_X9_23 : FLk RX9 23 9 6 := ⟨RX9, TX9, 14, _, rfl, inlX9, by decide, flX9_23, rfl⟩
theorem fk_X9_26 : FLk RX9 26 9 7 := ⟨RX9, TX9, 14, _, rfl, inlX9, by decide, flX9_26, rfl⟩
theorem fk_X9_29 : FLk RX9 29 9 12 := ⟨RX9, TX9, 14, _, rfl, inlX9, by decide, flX9_29, rfl⟩
theorem fk_X9_32 : FLk RX9 32 9 13 := ⟨RX9, TX9, 14, _, rfl, inlX9, by decide, flX9_32, rfl⟩
theorem fk_X2_18 : FLk RX2 18 2 2 := ⟨RX2, TX2, 3, _, rfl, inlX2, by decide, flX2_18, rfl⟩
theorem fp_X2_18 : FLp RX2 18 2 2 .int := ⟨RX2, TX2, 3, _, tyX2, rfl, inlX2, by decide, flX2_18, rfl, tyX2_ok, nmX2, rfl, by decide +kernel⟩
theorem fk_X2_22 : FLk RX2 22 2 1 := ⟨RX2, TX2, 3, _, rfl, inlX2, by decide, flX2_22, rfl⟩
theorem fp_X2_22 : FLp RX2 22 2 1 .int := ⟨RX2, TX2, 3, _, tyX2, rfl, inlX2, by decide, flX2_22, rfl, tyX2_ok, nmX2, rfl, by decide +kernel⟩
theorem fk_X0_26 : FLk RX0 26 0 3 := ⟨RX0, TX0, 5, _, rfl, inlX0, by decide, flX0_26, rfl⟩
theorem fp_X0_26 : FLp RX0 26 0 3 .int := ⟨RX0, TX0, 5, _, tyX0, rfl, inlX0, by decide, flX0_26, rfl, tyX0_ok, nmX0, rfl, by decide +kernel⟩
theorem fk_X0_30 : FLk RX0 30 0 4 := ⟨RX0, TX0, 5, _, rfl, inlX0, by decide, flX0_30, rfl⟩
theorem fp_X0_30 : FLp RX0 30 0 4 .int := ⟨RX0, TX0, 5, _, tyX0, rfl, inlX0, by decide, flX0_30, rfl, tyX0_ok, nmX0, rfl, by decide +kernel⟩
theorem fk_X9_39 : FLk RX9 39 9 3 := ⟨RX9, TX9, 14, _, rfl, inlX9, by decide, flX9_39, rfl⟩
theorem fp_X9_39 : FLp RX9 39 9 3 .int := ⟨RX9, TX9, 14, _, tyX9, rfl, inlX9, by decide, flX9_39, rfl, tyX9_ok, nmX9, rfl, by decide +kernel⟩
theorem fk_X9_43 : FLk RX9 43 9 2 := ⟨RX9, TX9, 14, _, rfl, inlX9, by decide, flX9_43, rfl⟩
theorem fp_X9_43 : FLp RX9 43 9 2 .int := ⟨RX9, TX9, 14, _, tyX9, rfl, inlX9, by decide, flX9_43, rfl, tyX9_ok, nmX9, rfl, by decide +kernel⟩
theorem fk_X9_180 : FLk RX9 180 9 8 := ⟨RX9, TX9, 14, _, rfl, inlX9, by decide, flX9_180, rfl⟩
theorem fp_X9_180 : FLp RX9 180 9 8 .int := ⟨RX9, TX9, 14, _, tyX9, rfl, inlX9, by decide, flX9_180, rfl, tyX9_ok, nmX9, rfl, by decide +kernel⟩
theorem fk_X5_20 : FLk RX5 20 5 1 := ⟨RX5, TX5, 2, _, rfl, inlX5, by decide, flX5_20, rfl⟩
theorem fp_X5_20 : FLp RX5 20 5 1 .int := ⟨RX5, TX5, 2, _, tyX5, rfl, inlX5, by decide, flX5_20, rfl, tyX5_ok, nmX5, rfl, by decide +kernel⟩
theorem fk_X4_18 : FLk RX4 18 4 1 := ⟨RX4, TX4, 7, _, rfl, inlX4, by decide, flX4_18, rfl⟩
theorem fp_X4_18 : FLp RX4 18 4 1 .int := ⟨RX4, TX4, 7, _, tyX4, rfl, inlX4, by decide, flX4_18, rfl, tyX4_ok, nmX4, rfl, by decide +kernel⟩
theorem fk_X4_52 : FLk RX4 52 4 3 := ⟨RX4, TX4, 7, _, rfl, inlX4, by decide, flX4_52, rfl⟩
theorem fp_X4_52 : FLp RX4 52 4 3 .int := ⟨RX4, TX4, 7, _, tyX4, rfl, inlX4, by decide, flX4_52, rfl, tyX4_ok, nmX4, rfl, by decide +kernel⟩
theorem fk_X4_55 : FLk RX4 55 4 4 := ⟨RX4, TX4, 7, _, rfl, inlX4, by decide, flX4_55, rfl⟩
theorem fp_X4_55 : FLp RX4 55 4 4 .int := ⟨RX4, TX4, 7, _, tyX4, rfl, inlX4, by decide, flX4_55, rfl, tyX4_ok, nmX4, rfl, by decide +kernel⟩
theorem fk_X4_61 : FLk RX4 61 4 2 := ⟨RX4, TX4, 7, _, rfl, inlX4, by decide, flX4_61, rfl⟩
theorem fp_X4_61 : FLp RX4 61 4 2 .int := ⟨RX4, TX4, 7, _, tyX4, rfl, inlX4, by decide, flX4_61, rfl, tyX4_ok, nmX4, rfl, by decide +kernel⟩
theorem fk_X4_64 : FLk RX4 64 4 5 := ⟨RX4, TX4, 7, _, rfl, inlX4, by decide, flX4_64, rfl⟩
theorem fp_X4_64 : FLp RX4 64 4 5 .int := ⟨RX4, TX4, 7, _, tyX4, rfl, inlX4, by decide, flX4_64, rfl, tyX4_ok, nmX4, rfl, by decide +kernel⟩
theorem fk_X4_67 : FLk RX4 67 4 6 := ⟨RX4, TX4, 7, _, rfl, inlX4, by decide, flX4_67, rfl⟩
theorem fp_X4_67 : FLp RX4 67 4 6 .int := ⟨RX4, TX4, 7, _, tyX4, rfl, inlX4, by decide, flX4_67, rfl, tyX4_ok, nmX4, rfl, by decide +kernel⟩
theorem fk_X9_200 : FLk RX9 200 9 9 := ⟨RX9, TX9, 14, _, rfl, inlX9, by decide, flX9_200, rfl⟩
theorem fp_X9_200 : FLp RX9 200 9 9 .int := ⟨RX9, TX9, 14, _, tyX9, rfl, inlX9, by decide, flX9_200, rfl, tyX9_ok, nmX9, rfl, by decide +kernel⟩
theorem fk_X9_203 : FLk RX9 203 9 10 := ⟨RX9, TX9, 14, _, rfl, inlX9, by decide, flX9_203, rfl⟩
theorem fp_X9_203 : FLp RX9 203 9 10 .boolean := ⟨RX9, TX9, 14, _, tyX9, rfl, inlX9, by decide, flX9_203, rfl, tyX9_ok, nmX9, rfl, by decide +kernel⟩
theorem fk_X9_211 : FLk RX9 211 9 11 := ⟨RX9, TX9, 14, _, rfl, inlX9, by decide, flX9_211, rfl⟩
theorem fp_X9_211 : FLp RX9 211 9 11 .int := ⟨RX9, TX9, 14, _, tyX9, rfl, inlX9, by decide, flX9_211, rfl, tyX9_ok, nmX9, rfl, by decide +kernel⟩
theorem fn_X3_97 : FLn RX3 97 1 0 := ⟨RX1, TX1, 2, _, _, rfl, inlX1, by decide, List.mem_of_getElem? (i := 1) rfl, rfl⟩
theorem fn_X8_128 : FLn RX8 128 1 0 := ⟨RX1, TX1, 2, _, _, rfl, inlX1, by decide, List.mem_of_getElem? (i := 2) rfl, rfl⟩
theorem fn_X8_131 : FLn RX8 131 1 1 := ⟨RX1, TX1, 2, _, _, rfl, inlX1, by decide, List.mem_of_getElem? (i := 3) rfl, rfl⟩
theorem fn_X8_151 : FLn RX8 151 7 0 := ⟨RX7, TX7, 5, _, _, rfl, inlX7, by decide, List.mem_of_getElem? (i := 4) rfl, rfl⟩
theorem fn_X3_169 : FLn RX3 169 7 0 := ⟨RX7, TX7, 5, _, _, rfl, inlX7, by decide, List.mem_of_getElem? (i := 5) rfl, rfl⟩
theorem fn_X8_122 : FLn RX8 122 7 4 := ⟨RX7, TX7, 5, _, _, rfl, inlX7, by decide, List.mem_of_getElem? (i := 6) rfl, rfl⟩
theorem fn_X3_182 : FLn RX3 182 7 4 := ⟨RX7, TX7, 5, _, _, rfl, inlX7, by decide, List.mem_of_getElem? (i := 7) rfl, rfl⟩
theorem fn_X3_208 : FLn RX3 208 0 0 := ⟨RX0, TX0, 5, _, _, rfl, inlX0, by decide, List.mem_of_getElem? (i := 8) rfl, rfl⟩
theorem fn_X3_202 : FLn RX3 202 0 1 := ⟨RX0, TX0, 5, _, _, rfl, inlX0, by decide, List.mem_of_getElem? (i := 9) rfl, rfl⟩
theorem fn_X3_205 : FLn RX3 205 0 2 := ⟨RX0, TX0, 5, _, _, rfl, inlX0, by decide, List.mem_of_getElem? (i := 10) rfl, rfl⟩
theorem fn_X8_223 : FLn RX8 223 0 4 := ⟨RX0, TX0, 5, _, _, rfl, inlX0, by decide, List.mem_of_getElem? (i := 11) rfl, rfl⟩
theorem fq_X8_223 : FLq RX8 223 0 4 .int := ⟨RX0, TX0, 5, _, _, tyX0, rfl, inlX0, by decide, List.mem_of_getElem? (i := 11) rfl, rfl, tyX0_ok, nmX0, rfl, by decide +kernel⟩
theorem fn_X3_195 : FLn RX3 195 0 4 := ⟨RX0, TX0, 5, _, _, rfl, inlX0, by decide, List.mem_of_getElem? (i := 12) rfl, rfl⟩
theorem fq_X3_195 : FLq RX3 195 0 4 .int := ⟨RX0, TX0, 5, _, _, tyX0, rfl, inlX0, by decide, List.mem_of_getElem? (i := 12) rfl, rfl, tyX0_ok, nmX0, rfl, by decide +kernel⟩
theorem fn_X8_60 : FLn RX8 60 3 0 := ⟨RX3, TX3, 12, _, _, rfl, inlX3, by decide, List.mem_of_getElem? (i := 13) rfl, rfl⟩
theorem fn_X8_125 : FLn RX8 125 3 1 := ⟨RX3, TX3, 12, _, _, rfl, inlX3, by decide, List.mem_of_getElem? (i := 14) rfl, rfl⟩
theorem fn_X8_46 : FLn RX8 46 3 2 := ⟨RX3, TX3, 12, _, _, rfl, inlX3, by decide, List.mem_of_getElem? (i := 15) rfl, rfl⟩
theorem fn_X8_100 : FLn RX8 100 3 3 := ⟨RX3, TX3, 12, _, _, rfl, inlX3, by decide, List.mem_of_getElem? (i := 16) rfl, rfl⟩
theorem fn_X8_82 : FLn RX8 82 3 4 := ⟨RX3, TX3, 12, _, _, rfl, inlX3, by decide, List.mem_of_getElem? (i := 17) rfl, rfl⟩
theorem fn_X8_181 : FLn RX8 181 3 5 := ⟨RX3, TX3, 12, _, _, rfl, inlX3, by decide, List.mem_of_getElem? (i := 18) rfl, rfl⟩
theorem fn_X8_142 : FLn RX8 142 3 6 := ⟨RX3, TX3, 12, _, _, rfl, inlX3, by decide, List.mem_of_getElem? (i := 19) rfl, rfl⟩
theorem fn_X8_145 : FLn RX8 145 3 7 := ⟨RX3, TX3, 12, _, _, rfl, inlX3, by decide, List.mem_of_getElem? (i := 20) rfl, rfl⟩
theorem fn_X8_166 : FLn RX8 166 3 8 := ⟨RX3, TX3, 12, _, _, rfl, inlX3, by decide, List.mem_of_getElem? (i := 21) rfl, rfl⟩
theorem fn_X8_169 : FLn RX8 169 3 9 := ⟨RX3, TX3, 12, _, _, rfl, inlX3, by decide, List.mem_of_getElem? (i := 22) rfl, rfl⟩
theorem fn_X8_172 : FLn RX8 172 3 10 := ⟨RX3, TX3, 12, _, _, rfl, inlX3, by decide, List.mem_of_getElem? (i := 23) rfl, rfl⟩
theorem fn_X8_175 : FLn RX8 175 3 11 := ⟨RX3, TX3, 12, _, _, rfl, inlX3, by decide, List.mem_of_getElem? (i := 24) rfl, rfl⟩
theorem fn_X8_199 : FLn RX8 199 2 2 := ⟨RX2, TX2, 3, _, _, rfl, inlX2, by decide, List.mem_of_getElem? (i := 25) rfl, rfl⟩
theorem fq_X8_199 : FLq RX8 199 2 2 .int := ⟨RX2, TX2, 3, _, _, tyX2, rfl, inlX2, by decide, List.mem_of_getElem? (i := 25) rfl, rfl, tyX2_ok, nmX2, rfl, by decide +kernel⟩
theorem fn_X4_26 : FLn RX4 26 5 1 := ⟨RX5, TX5, 2, _, _, rfl, inlX5, by decide, List.mem_of_getElem? (i := 26) rfl, rfl⟩
theorem fq_X4_26 : FLq RX4 26 5 1 .int := ⟨RX5, TX5, 2, _, _, tyX5, rfl, inlX5, by decide, List.mem_of_getElem? (i := 26) rfl, rfl, tyX5_ok, nmX5, rfl, by decide +kernel⟩
theorem fn_X8_193 : FLn RX8 193 5 1 := ⟨RX5, TX5, 2, _, _, rfl, inlX5, by decide, List.mem_of_getElem? (i := 27) rfl, rfl⟩
theorem fq_X8_193 : FLq RX8 193 5 1 .int := ⟨RX5, TX5, 2, _, _, tyX5, rfl, inlX5, by decide, List.mem_of_getElem? (i := 27) rfl, rfl, tyX5_ok, nmX5, rfl, by decide +kernel⟩
theorem fn_X8_37 : FLn RX8 37 4 0 := ⟨RX4, TX4, 7, _, _, rfl, inlX4, by decide, List.mem_of_getElem? (i := 28) rfl, rfl⟩
theorem fn_X8_241 : FLn RX8 241 4 1 := ⟨RX4, TX4, 7, _, _, rfl, inlX4, by decide, List.mem_of_getElem? (i := 29) rfl, rfl⟩
theorem fq_X8_241 : FLq RX8 241 4 1 .int := ⟨RX4, TX4, 7, _, _, tyX4, rfl, inlX4, by decide, List.mem_of_getElem? (i := 29) rfl, rfl, tyX4_ok, nmX4, rfl, by decide +kernel⟩
theorem fn_X8_248 : FLn RX8 248 4 3 := ⟨RX4, TX4, 7, _, _, rfl, inlX4, by decide, List.mem_of_getElem? (i := 30) rfl, rfl⟩
theorem fq_X8_248 : FLq RX8 248 4 3 .int := ⟨RX4, TX4, 7, _, _, tyX4, rfl, inlX4, by decide, List.mem_of_getElem? (i := 30) rfl, rfl, tyX4_ok, nmX4, rfl, by decide +kernel⟩
theorem fn_X8_251 : FLn RX8 251 4 4 := ⟨RX4, TX4, 7, _, _, rfl, inlX4, by decide, List.mem_of_getElem? (i := 31) rfl, rfl⟩
theorem fq_X8_251 : FLq RX8 251 4 4 .int := ⟨RX4, TX4, 7, _, _, tyX4, rfl, inlX4, by decide, List.mem_of_getElem? (i := 31) rfl, rfl, tyX4_ok, nmX4, rfl, by decide +kernel⟩
theorem fn_X8_254 : FLn RX8 254 4 5 := ⟨RX4, TX4, 7, _, _, rfl, inlX4, by decide, List.mem_of_getElem? (i := 32) rfl, rfl⟩
theorem fq_X8_254 : FLq RX8 254 4 5 .int := ⟨RX4, TX4, 7, _, _, tyX4, rfl, inlX4, by decide, List.mem_of_getElem? (i := 32) rfl, rfl, tyX4_ok, nmX4, rfl, by decide +kernel⟩
theorem fn_X8_257 : FLn RX8 257 4 6 := ⟨RX4, TX4, 7, _, _, rfl, inlX4, by decide, List.mem_of_getElem? (i := 33) rfl, rfl⟩
theorem fq_X8_257 : FLq RX8 257 4 6 .int := ⟨RX4, TX4, 7, _, _, tyX4, rfl, inlX4, by decide, List.mem_of_getElem? (i := 33) rfl, rfl, tyX4_ok, nmX4, rfl, by decide +kernel⟩
theorem nd_X6_write : (yX6_write).cls ≠ "java/lang/invoke/MethodHandle" ∧ (yX6_write).cls ≠ "java/lang/invoke/VarHandle" ∧ (parseMethodDescriptor (yX6_write).desc).map (fun d => d.parameters.length) = some 2 := by decide +kernel
theorem mk_X3_69 : MLk RX3 69 yX6_write cX6_write 3 none 2 := ⟨mlX3_69, im_X6_write, se_X6_write, ini_X6, co_X6_write, nd_X6_write⟩
theorem nd_X8_set : (yX8_set).cls ≠ "java/lang/invoke/MethodHandle" ∧ (yX8_set).cls ≠ "java/lang/invoke/VarHandle" ∧ (parseMethodDescriptor (yX8_set).desc).map (fun d => d.parameters.length) = some 2 := by decide +kernel
theorem mk_L_13 : MLk RL 13 yX8_set cX8_set 4 (some .int) 2 := ⟨mlL_13, im_X8_set, se_X8_set, ini_X8, co_X8_set, nd_X8_set⟩
theorem nd_X8_isValueOf : (yX8_isValueOf).cls ≠ "java/lang/invoke/MethodHandle" ∧ (yX8_isValueOf).cls ≠ "java/lang/invoke/VarHandle" ∧ (parseMethodDescriptor (yX8_isValueOf).desc).map (fun d => d.parameters.length) = some 2 := by decide +kernel
theorem mk_X8_42 : MSk RX8 42 yX8_isValueOf cX8_isValueOf 2 (some .boolean) 2 := ⟨mlX8_42, st_X8_isValueOf, ini_X8, co_X8_isValueOf, nd_X8_isValueOf⟩
theorem nd_X1_howManyInUse : (yX1_howManyInUse).cls ≠ "java/lang/invoke/MethodHandle" ∧ (yX1_howManyInUse).cls ≠ "java/lang/invoke/VarHandle" ∧ (parseMethodDescriptor (yX1_howManyInUse).desc).map (fun d => d.parameters.length) = some 0 := by decide +kernel
theorem mk_X8_50 : MLk RX8 50 yX1_howManyInUse cX1_howManyInUse 3 (some .int) 0 := ⟨mlX8_50, im_X1_howManyInUse, se_X1_howManyInUse, ini_X1, co_X1_howManyInUse, nd_X1_howManyInUse⟩
theorem nd_X6_at : (yX6_at).cls ≠ "java/lang/invoke/MethodHandle" ∧ (yX6_at).cls ≠ "java/lang/invoke/VarHandle" ∧ (parseMethodDescriptor (yX6_at).desc).map (fun d => d.parameters.length) = some 1 := by decide +kernel
theorem mk_X1_23 : MLk RX1 23 yX6_at cX6_at 2 (some .int) 1 := ⟨mlX1_23, im_X6_at, se_X6_at, ini_X6, co_X6_at, nd_X6_at⟩
theorem nd_X2_keep : (yX2_keep).cls ≠ "java/lang/invoke/MethodHandle" ∧ (yX2_keep).cls ≠ "java/lang/invoke/VarHandle" ∧ (parseMethodDescriptor (yX2_keep).desc).map (fun d => d.parameters.length) = some 1 := by decide +kernel
theorem mk_X8_56 : MLk RX8 56 yX2_keep cX2_keep 3 none 1 := ⟨mlX8_56, im_X2_keep, se_X2_keep, ini_X2, co_X2_keep, nd_X2_keep⟩
theorem nd_X2_stateAt : (yX2_stateAt).cls ≠ "java/lang/invoke/MethodHandle" ∧ (yX2_stateAt).cls ≠ "java/lang/invoke/VarHandle" ∧ (parseMethodDescriptor (yX2_stateAt).desc).map (fun d => d.parameters.length) = some 1 := by decide +kernel
theorem mk_X2_25 : MLk RX2 25 yX2_stateAt cX2_stateAt 3 (some (.object "ShoutGroups$Library")) 1 := ⟨mlX2_25, im_X2_stateAt, se_X2_stateAt, ini_X2, co_X2_stateAt, nd_X2_stateAt⟩
theorem nd_X3_copyFrom : (yX3_copyFrom).cls ≠ "java/lang/invoke/MethodHandle" ∧ (yX3_copyFrom).cls ≠ "java/lang/invoke/VarHandle" ∧ (parseMethodDescriptor (yX3_copyFrom).desc).map (fun d => d.parameters.length) = some 1 := by decide +kernel
theorem mk_X2_29 : MLk RX2 29 yX3_copyFrom cX3_copyFrom 2 none 1 := ⟨mlX2_29, im_X3_copyFrom, se_X3_copyFrom, ini_X3, co_X3_copyFrom, nd_X3_copyFrom⟩
theorem nd_X6_copyFrom : (yX6_copyFrom).cls ≠ "java/lang/invoke/MethodHandle" ∧ (yX6_copyFrom).cls ≠ "java/lang/invoke/VarHandle" ∧ (parseMethodDescriptor (yX6_copyFrom).desc).map (fun d => d.parameters.length) = some 1 := by decide +kernel
theorem mk_X3_73 : MLk RX3 73 yX6_copyFrom cX6_copyFrom 2 none 1 := ⟨mlX3_73, im_X6_copyFrom, se_X6_copyFrom, ini_X6, co_X6_copyFrom, nd_X6_copyFrom⟩
theorem nd_Lib_Math_min_name : (Lib.Math.min.name).cls ≠ "java/lang/invoke/MethodHandle" ∧ (Lib.Math.min.name).cls ≠ "java/lang/invoke/VarHandle" ∧ (parseMethodDescriptor (Lib.Math.min.name).desc).map (fun d => d.parameters.length) = some 2 := by decide +kernel
theorem mk_X6_19 : MSk RX6 19 Lib.Math.min.name Lib.Math.min.code 2 (some .int) 2 := ⟨mlX6_19, st_ib.Math.min.name, ini_javalangMath, co_ib.Math.min.name, nd_Lib_Math_min_name⟩
theorem nd_X1_copyFrom : (yX1_copyFrom).cls ≠ "java/lang/invoke/MethodHandle" ∧ (yX1_copyFrom).cls ≠ "java/lang/invoke/VarHandle" ∧ (parseMethodDescriptor (yX1_copyFrom).desc).map (fun d => d.parameters.length) = some 1 := by decide +kernel
theorem mk_X3_77 : MLk RX3 77 yX1_copyFrom cX1_copyFrom 2 none 1 := ⟨mlX3_77, im_X1_copyFrom, se_X1_copyFrom, ini_X1, co_X1_copyFrom, nd_X1_copyFrom⟩
theorem mk_X1_57 : MLk RX1 57 yX6_copyFrom cX6_copyFrom 2 none 1 := ⟨mlX1_57, im_X6_copyFrom, se_X6_copyFrom, ini_X6, co_X6_copyFrom, nd_X6_copyFrom⟩
theorem nd_X7_copyFrom : (yX7_copyFrom).cls ≠ "java/lang/invoke/MethodHandle" ∧ (yX7_copyFrom).cls ≠ "java/lang/invoke/VarHandle" ∧ (parseMethodDescriptor (yX7_copyFrom).desc).map (fun d => d.parameters.length) = some 1 := by decide +kernel
theorem mk_X3_80 : MLk RX3 80 yX7_copyFrom cX7_copyFrom 2 none 1 := ⟨mlX3_80, im_X7_copyFrom, se_X7_copyFrom, ini_X7, co_X7_copyFrom, nd_X7_copyFrom⟩
theorem mk_X7_53 : MLk RX7 53 yX6_copyFrom cX6_copyFrom 2 none 1 := ⟨mlX7_53, im_X6_copyFrom, se_X6_copyFrom, ini_X6, co_X6_copyFrom, nd_X6_copyFrom⟩
theorem nd_X0_copyFrom : (yX0_copyFrom).cls ≠ "java/lang/invoke/MethodHandle" ∧ (yX0_copyFrom).cls ≠ "java/lang/invoke/VarHandle" ∧ (parseMethodDescriptor (yX0_copyFrom).desc).map (fun d => d.parameters.length) = some 1 := by decide +kernel
theorem mk_X3_83 : MLk RX3 83 yX0_copyFrom cX0_copyFrom 2 none 1 := ⟨mlX3_83, im_X0_copyFrom, se_X0_copyFrom, ini_X0, co_X0_copyFrom, nd_X0_copyFrom⟩
theorem mk_X0_41 : MLk RX0 41 yX6_copyFrom cX6_copyFrom 2 none 1 := ⟨mlX0_41, im_X6_copyFrom, se_X6_copyFrom, ini_X6, co_X6_copyFrom, nd_X6_copyFrom⟩
theorem mk_X8_64 : MLk RX8 64 yX6_at cX6_at 2 (some .int) 1 := ⟨mlX8_64, im_X6_at, se_X6_at, ini_X6, co_X6_at, nd_X6_at⟩
theorem mk_X8_70 : MLk RX8 70 yX6_write cX6_write 3 none 2 := ⟨mlX8_70, im_X6_write, se_X6_write, ini_X6, co_X6_write, nd_X6_write⟩
theorem nd_X9_set : (yX9_set).cls ≠ "java/lang/invoke/MethodHandle" ∧ (yX9_set).cls ≠ "java/lang/invoke/VarHandle" ∧ (parseMethodDescriptor (yX9_set).desc).map (fun d => d.parameters.length) = some 2 := by decide +kernel
theorem mk_L_17 : MLk RL 17 yX9_set cX9_set 4 (some .int) 2 := ⟨mlL_17, im_X9_set, se_X9_set, ini_X9, co_X9_set, nd_X9_set⟩
theorem nd_X9_in : (yX9_in).cls ≠ "java/lang/invoke/MethodHandle" ∧ (yX9_in).cls ≠ "java/lang/invoke/VarHandle" ∧ (parseMethodDescriptor (yX9_in).desc).map (fun d => d.parameters.length) = some 3 := by decide +kernel
theorem mk_X9_35 : MSk RX9 35 yX9_in cX9_in 3 (some .boolean) 3 := ⟨mlX9_35, st_X9_in, ini_X9, co_X9_in, nd_X9_in⟩
theorem nd_X9_cardsThat : (yX9_cardsThat).cls ≠ "java/lang/invoke/MethodHandle" ∧ (yX9_cardsThat).cls ≠ "java/lang/invoke/VarHandle" ∧ (parseMethodDescriptor (yX9_cardsThat).desc).map (fun d => d.parameters.length) = some 2 := by decide +kernel
theorem mk_X9_164 : MLk RX9 164 yX9_cardsThat cX9_cardsThat 5 (some .int) 2 := ⟨mlX9_164, im_X9_cardsThat, se_X9_cardsThat, ini_X9, co_X9_cardsThat, nd_X9_cardsThat⟩
theorem nd_X9_ofN : (yX9_ofN).cls ≠ "java/lang/invoke/MethodHandle" ∧ (yX9_ofN).cls ≠ "java/lang/invoke/VarHandle" ∧ (parseMethodDescriptor (yX9_ofN).desc).map (fun d => d.parameters.length) = some 2 := by decide +kernel
theorem mk_X9_75 : MLk RX9 75 yX9_ofN cX9_ofN 3 (some .int) 2 := ⟨mlX9_75, im_X9_ofN, se_X9_ofN, ini_X9, co_X9_ofN, nd_X9_ofN⟩
theorem nd_X9_keep : (yX9_keep).cls ≠ "java/lang/invoke/MethodHandle" ∧ (yX9_keep).cls ≠ "java/lang/invoke/VarHandle" ∧ (parseMethodDescriptor (yX9_keep).desc).map (fun d => d.parameters.length) = some 0 := by decide +kernel
theorem mk_X9_46 : MLk RX9 46 yX9_keep cX9_keep 3 none 0 := ⟨mlX9_46, im_X9_keep, se_X9_keep, ini_X9, co_X9_keep, nd_X9_keep⟩
theorem nd_X8_read : (yX8_read).cls ≠ "java/lang/invoke/MethodHandle" ∧ (yX8_read).cls ≠ "java/lang/invoke/VarHandle" ∧ (parseMethodDescriptor (yX8_read).desc).map (fun d => d.parameters.length) = some 2 := by decide +kernel
theorem mk_L_18 : MLk RL 18 yX8_read cX8_read 3 (some .int) 2 := ⟨mlL_18, im_X8_read, se_X8_read, ini_X8, co_X8_read, nd_X8_read⟩
theorem nd_X8_happen : (yX8_happen).cls ≠ "java/lang/invoke/MethodHandle" ∧ (yX8_happen).cls ≠ "java/lang/invoke/VarHandle" ∧ (parseMethodDescriptor (yX8_happen).desc).map (fun d => d.parameters.length) = some 5 := by decide +kernel
theorem mk_X8_74 : MLk RX8 74 yX8_happen cX8_happen 7 (some .int) 5 := ⟨mlX8_74, im_X8_happen, se_X8_happen, ini_X8, co_X8_happen, nd_X8_happen⟩
theorem nd_X3_errorOf : (yX3_errorOf).cls ≠ "java/lang/invoke/MethodHandle" ∧ (yX3_errorOf).cls ≠ "java/lang/invoke/VarHandle" ∧ (parseMethodDescriptor (yX3_errorOf).desc).map (fun d => d.parameters.length) = some 4 := by decide +kernel
theorem mk_X8_78 : MLk RX8 78 yX3_errorOf cX3_errorOf 5 (some .int) 4 := ⟨mlX8_78, im_X3_errorOf, se_X3_errorOf, ini_X3, co_X3_errorOf, nd_X3_errorOf⟩
theorem nd_X7_holds : (yX7_holds).cls ≠ "java/lang/invoke/MethodHandle" ∧ (yX7_holds).cls ≠ "java/lang/invoke/VarHandle" ∧ (parseMethodDescriptor (yX7_holds).desc).map (fun d => d.parameters.length) = some 2 := by decide +kernel
theorem mk_X3_93 : MLk RX3 93 yX7_holds cX7_holds 3 (some .boolean) 2 := ⟨mlX3_93, im_X7_holds, se_X7_holds, ini_X7, co_X7_holds, nd_X7_holds⟩
theorem mk_X7_32 : MLk RX7 32 yX6_at cX6_at 2 (some .int) 1 := ⟨mlX7_32, im_X6_at, se_X6_at, ini_X6, co_X6_at, nd_X6_at⟩
theorem mk_X3_100 : MLk RX3 100 yX6_at cX6_at 2 (some .int) 1 := ⟨mlX3_100, im_X6_at, se_X6_at, ini_X6, co_X6_at, nd_X6_at⟩
theorem nd_X0_append : (yX0_append).cls ≠ "java/lang/invoke/MethodHandle" ∧ (yX0_append).cls ≠ "java/lang/invoke/VarHandle" ∧ (parseMethodDescriptor (yX0_append).desc).map (fun d => d.parameters.length) = some 3 := by decide +kernel
theorem mk_X8_86 : MLk RX8 86 yX0_append cX0_append 5 none 3 := ⟨mlX8_86, im_X0_append, se_X0_append, ini_X0, co_X0_append, nd_X0_append⟩
theorem nd_X0_cellOf : (yX0_cellOf).cls ≠ "java/lang/invoke/MethodHandle" ∧ (yX0_cellOf).cls ≠ "java/lang/invoke/VarHandle" ∧ (parseMethodDescriptor (yX0_cellOf).desc).map (fun d => d.parameters.length) = some 1 := by decide +kernel
theorem mk_X0_33 : MLk RX0 33 yX0_cellOf cX0_cellOf 2 (some .int) 1 := ⟨mlX0_33, im_X0_cellOf, se_X0_cellOf, ini_X0, co_X0_cellOf, nd_X0_cellOf⟩
theorem mk_X0_37 : MLk RX0 37 yX6_write cX6_write 3 none 2 := ⟨mlX0_37, im_X6_write, se_X6_write, ini_X6, co_X6_write, nd_X6_write⟩
theorem nd_X3_lend : (yX3_lend).cls ≠ "java/lang/invoke/MethodHandle" ∧ (yX3_lend).cls ≠ "java/lang/invoke/VarHandle" ∧ (parseMethodDescriptor (yX3_lend).desc).map (fun d => d.parameters.length) = some 2 := by decide +kernel
theorem mk_X8_92 : MLk RX8 92 yX3_lend cX3_lend 7 (some .int) 2 := ⟨mlX8_92, im_X3_lend, se_X3_lend, ini_X3, co_X3_lend, nd_X3_lend⟩
theorem nd_X7_placeOf : (yX7_placeOf).cls ≠ "java/lang/invoke/MethodHandle" ∧ (yX7_placeOf).cls ≠ "java/lang/invoke/VarHandle" ∧ (parseMethodDescriptor (yX7_placeOf).desc).map (fun d => d.parameters.length) = some 2 := by decide +kernel
theorem mk_X3_104 : MLk RX3 104 yX7_placeOf cX7_placeOf 6 (some .int) 2 := ⟨mlX3_104, im_X7_placeOf, se_X7_placeOf, ini_X7, co_X7_placeOf, nd_X7_placeOf⟩
theorem nd_X3_noteUse : (yX3_noteUse).cls ≠ "java/lang/invoke/MethodHandle" ∧ (yX3_noteUse).cls ≠ "java/lang/invoke/VarHandle" ∧ (parseMethodDescriptor (yX3_noteUse).desc).map (fun d => d.parameters.length) = some 2 := by decide +kernel
theorem mk_X3_108 : MLk RX3 108 yX3_noteUse cX3_noteUse 3 none 2 := ⟨mlX3_108, im_X3_noteUse, se_X3_noteUse, ini_X3, co_X3_noteUse, nd_X3_noteUse⟩
theorem nd_X6_add : (yX6_add).cls ≠ "java/lang/invoke/MethodHandle" ∧ (yX6_add).cls ≠ "java/lang/invoke/VarHandle" ∧ (parseMethodDescriptor (yX6_add).desc).map (fun d => d.parameters.length) = some 2 := by decide +kernel
theorem mk_X3_135 : MLk RX3 135 yX6_add cX6_add 3 none 2 := ⟨mlX3_135, im_X6_add, se_X6_add, ini_X6, co_X6_add, nd_X6_add⟩
theorem nd_X7_valueAt : (yX7_valueAt).cls ≠ "java/lang/invoke/MethodHandle" ∧ (yX7_valueAt).cls ≠ "java/lang/invoke/VarHandle" ∧ (parseMethodDescriptor (yX7_valueAt).desc).map (fun d => d.parameters.length) = some 2 := by decide +kernel
theorem mk_X3_112 : MLk RX3 112 yX7_valueAt cX7_valueAt 3 (some .int) 2 := ⟨mlX3_112, im_X7_valueAt, se_X7_valueAt, ini_X7, co_X7_valueAt, nd_X7_valueAt⟩
theorem nd_X7_isChangedAt : (yX7_isChangedAt).cls ≠ "java/lang/invoke/MethodHandle" ∧ (yX7_isChangedAt).cls ≠ "java/lang/invoke/VarHandle" ∧ (parseMethodDescriptor (yX7_isChangedAt).desc).map (fun d => d.parameters.length) = some 2 := by decide +kernel
theorem mk_X3_115 : MLk RX3 115 yX7_isChangedAt cX7_isChangedAt 3 (some .boolean) 2 := ⟨mlX3_115, im_X7_isChangedAt, se_X7_isChangedAt, ini_X7, co_X7_isChangedAt, nd_X7_isChangedAt⟩
theorem nd_X7_remove : (yX7_remove).cls ≠ "java/lang/invoke/MethodHandle" ∧ (yX7_remove).cls ≠ "java/lang/invoke/VarHandle" ∧ (parseMethodDescriptor (yX7_remove).desc).map (fun d => d.parameters.length) = some 2 := by decide +kernel
theorem mk_X3_118 : MLk RX3 118 yX7_remove cX7_remove 8 none 2 := ⟨mlX3_118, im_X7_remove, se_X7_remove, ini_X7, co_X7_remove, nd_X7_remove⟩
theorem mk_X7_40 : MLk RX7 40 yX6_write cX6_write 3 none 2 := ⟨mlX7_40, im_X6_write, se_X6_write, ini_X6, co_X6_write, nd_X6_write⟩
theorem nd_X7_lay : (yX7_lay).cls ≠ "java/lang/invoke/MethodHandle" ∧ (yX7_lay).cls ≠ "java/lang/invoke/VarHandle" ∧ (parseMethodDescriptor (yX7_lay).desc).map (fun d => d.parameters.length) = some 4 := by decide +kernel
theorem mk_X3_121 : MLk RX3 121 yX7_lay cX7_lay 7 none 4 := ⟨mlX3_121, im_X7_lay, se_X7_lay, ini_X7, co_X7_lay, nd_X7_lay⟩
theorem nd_X3_callBack : (yX3_callBack).cls ≠ "java/lang/invoke/MethodHandle" ∧ (yX3_callBack).cls ≠ "java/lang/invoke/VarHandle" ∧ (parseMethodDescriptor (yX3_callBack).desc).map (fun d => d.parameters.length) = some 2 := by decide +kernel
theorem mk_X3_125 : MLk RX3 125 yX3_callBack cX3_callBack 7 (some .int) 2 := ⟨mlX3_125, im_X3_callBack, se_X3_callBack, ini_X3, co_X3_callBack, nd_X3_callBack⟩
theorem nd_X3_called : (yX3_called).cls ≠ "java/lang/invoke/MethodHandle" ∧ (yX3_called).cls ≠ "java/lang/invoke/VarHandle" ∧ (parseMethodDescriptor (yX3_called).desc).map (fun d => d.parameters.length) = some 1 := by decide +kernel
theorem mk_X3_154 : MLk RX3 154 yX3_called cX3_called 2 (some .int) 1 := ⟨mlX3_154, im_X3_called, se_X3_called, ini_X3, co_X3_called, nd_X3_called⟩
theorem nd_X1_called : (yX1_called).cls ≠ "java/lang/invoke/MethodHandle" ∧ (yX1_called).cls ≠ "java/lang/invoke/VarHandle" ∧ (parseMethodDescriptor (yX1_called).desc).map (fun d => d.parameters.length) = some 2 := by decide +kernel
theorem mk_X3_177 : MLk RX3 177 yX1_called cX1_called 6 (some .int) 2 := ⟨mlX3_177, im_X1_called, se_X1_called, ini_X1, co_X1_called, nd_X1_called⟩
theorem nd_X3_takeAway : (yX3_takeAway).cls ≠ "java/lang/invoke/MethodHandle" ∧ (yX3_takeAway).cls ≠ "java/lang/invoke/VarHandle" ∧ (parseMethodDescriptor (yX3_takeAway).desc).map (fun d => d.parameters.length) = some 2 := by decide +kernel
theorem mk_X3_160 : MLk RX3 160 yX3_takeAway cX3_takeAway 4 none 2 := ⟨mlX3_160, im_X3_takeAway, se_X3_takeAway, ini_X3, co_X3_takeAway, nd_X3_takeAway⟩
theorem nd_X1_become : (yX1_become).cls ≠ "java/lang/invoke/MethodHandle" ∧ (yX1_become).cls ≠ "java/lang/invoke/VarHandle" ∧ (parseMethodDescriptor (yX1_become).desc).map (fun d => d.parameters.length) = some 3 := by decide +kernel
theorem mk_X3_128 : MLk RX3 128 yX1_become cX1_become 4 none 3 := ⟨mlX3_128, im_X1_become, se_X1_become, ini_X1, co_X1_become, nd_X1_become⟩
theorem mk_X1_38 : MLk RX1 38 yX6_write cX6_write 3 none 2 := ⟨mlX1_38, im_X6_write, se_X6_write, ini_X6, co_X6_write, nd_X6_write⟩
theorem nd_X3_makeRoom : (yX3_makeRoom).cls ≠ "java/lang/invoke/MethodHandle" ∧ (yX3_makeRoom).cls ≠ "java/lang/invoke/VarHandle" ∧ (parseMethodDescriptor (yX3_makeRoom).desc).map (fun d => d.parameters.length) = some 1 := by decide +kernel
theorem mk_X3_132 : MLk RX3 132 yX3_makeRoom cX3_makeRoom 4 none 1 := ⟨mlX3_132, im_X3_makeRoom, se_X3_makeRoom, ini_X3, co_X3_makeRoom, nd_X3_makeRoom⟩
theorem nd_X3_copiesInTheWay : (yX3_copiesInTheWay).cls ≠ "java/lang/invoke/MethodHandle" ∧ (yX3_copiesInTheWay).cls ≠ "java/lang/invoke/VarHandle" ∧ (parseMethodDescriptor (yX3_copiesInTheWay).desc).map (fun d => d.parameters.length) = some 1 := by decide +kernel
theorem mk_X3_163 : MLk RX3 163 yX3_copiesInTheWay cX3_copiesInTheWay 2 (some .int) 1 := ⟨mlX3_163, im_X3_copiesInTheWay, se_X3_copiesInTheWay, ini_X3, co_X3_copiesInTheWay, nd_X3_copiesInTheWay⟩
theorem nd_Lib_Math_max_name : (Lib.Math.max.name).cls ≠ "java/lang/invoke/MethodHandle" ∧ (Lib.Math.max.name).cls ≠ "java/lang/invoke/VarHandle" ∧ (parseMethodDescriptor (Lib.Math.max.name).desc).map (fun d => d.parameters.length) = some 2 := by decide +kernel
theorem mk_X3_172 : MSk RX3 172 Lib.Math.max.name Lib.Math.max.code 2 (some .int) 2 := ⟨mlX3_172, st_ib.Math.max.name, ini_javalangMath, co_ib.Math.max.name, nd_Lib_Math_max_name⟩
theorem nd_X3_giveBack : (yX3_giveBack).cls ≠ "java/lang/invoke/MethodHandle" ∧ (yX3_giveBack).cls ≠ "java/lang/invoke/VarHandle" ∧ (parseMethodDescriptor (yX3_giveBack).desc).map (fun d => d.parameters.length) = some 2 := by decide +kernel
theorem mk_X3_166 : MLk RX3 166 yX3_giveBack cX3_giveBack 5 (some .int) 2 := ⟨mlX3_166, im_X3_giveBack, se_X3_giveBack, ini_X3, co_X3_giveBack, nd_X3_giveBack⟩
theorem nd_X7_noteAt : (yX7_noteAt).cls ≠ "java/lang/invoke/MethodHandle" ∧ (yX7_noteAt).cls ≠ "java/lang/invoke/VarHandle" ∧ (parseMethodDescriptor (yX7_noteAt).desc).map (fun d => d.parameters.length) = some 2 := by decide +kernel
theorem mk_X3_148 : MLk RX3 148 yX7_noteAt cX7_noteAt 3 (some .int) 2 := ⟨mlX3_148, im_X7_noteAt, se_X7_noteAt, ini_X7, co_X7_noteAt, nd_X7_noteAt⟩
theorem nd_X1_strike : (yX1_strike).cls ≠ "java/lang/invoke/MethodHandle" ∧ (yX1_strike).cls ≠ "java/lang/invoke/VarHandle" ∧ (parseMethodDescriptor (yX1_strike).desc).map (fun d => d.parameters.length) = some 2 := by decide +kernel
theorem mk_X3_151 : MLk RX3 151 yX1_strike cX1_strike 4 none 2 := ⟨mlX3_151, im_X1_strike, se_X1_strike, ini_X1, co_X1_strike, nd_X1_strike⟩
theorem nd_X1_name : (yX1_name).cls ≠ "java/lang/invoke/MethodHandle" ∧ (yX1_name).cls ≠ "java/lang/invoke/VarHandle" ∧ (parseMethodDescriptor (yX1_name).desc).map (fun d => d.parameters.length) = some 4 := by decide +kernel
theorem mk_X3_138 : MLk RX3 138 yX1_name cX1_name 6 none 4 := ⟨mlX3_138, im_X1_name, se_X1_name, ini_X1, co_X1_name, nd_X1_name⟩
theorem nd_J6_bitCount_0f7a4 : (yJ6_bitCount_0f7a4).cls ≠ "java/lang/invoke/MethodHandle" ∧ (yJ6_bitCount_0f7a4).cls ≠ "java/lang/invoke/VarHandle" ∧ (parseMethodDescriptor (yJ6_bitCount_0f7a4).desc).map (fun d => d.parameters.length) = some 1 := by decide +kernel
theorem mk_X1_42 : MSk RX1 42 yJ6_bitCount_0f7a4 cJ6_bitCount_0f7a4 1 (some .int) 1 := ⟨mlX1_42, st_J6_bitCount_0f7a4, ini_J6, co_J6_bitCount_0f7a4, nd_J6_bitCount_0f7a4⟩
theorem mk_X1_47 : MLk RX1 47 yX1_become cX1_become 4 none 3 := ⟨mlX1_47, im_X1_become, se_X1_become, ini_X1, co_X1_become, nd_X1_become⟩
theorem nd_X1_groupsOf : (yX1_groupsOf).cls ≠ "java/lang/invoke/MethodHandle" ∧ (yX1_groupsOf).cls ≠ "java/lang/invoke/VarHandle" ∧ (parseMethodDescriptor (yX1_groupsOf).desc).map (fun d => d.parameters.length) = some 2 := by decide +kernel
theorem mk_X1_51 : MSk RX1 51 yX1_groupsOf cX1_groupsOf 4 (some .int) 2 := ⟨mlX1_51, st_X1_groupsOf, ini_X1, co_X1_groupsOf, nd_X1_groupsOf⟩
theorem nd_X3_rewrite : (yX3_rewrite).cls ≠ "java/lang/invoke/MethodHandle" ∧ (yX3_rewrite).cls ≠ "java/lang/invoke/VarHandle" ∧ (parseMethodDescriptor (yX3_rewrite).desc).map (fun d => d.parameters.length) = some 3 := by decide +kernel
theorem mk_X8_96 : MLk RX8 96 yX3_rewrite cX3_rewrite 6 (some .int) 3 := ⟨mlX8_96, im_X3_rewrite, se_X3_rewrite, ini_X3, co_X3_rewrite, nd_X3_rewrite⟩
theorem nd_X1_isOwnedBy : (yX1_isOwnedBy).cls ≠ "java/lang/invoke/MethodHandle" ∧ (yX1_isOwnedBy).cls ≠ "java/lang/invoke/VarHandle" ∧ (parseMethodDescriptor (yX1_isOwnedBy).desc).map (fun d => d.parameters.length) = some 2 := by decide +kernel
theorem mk_X3_142 : MLk RX3 142 yX1_isOwnedBy cX1_isOwnedBy 3 (some .boolean) 2 := ⟨mlX3_142, im_X1_isOwnedBy, se_X1_isOwnedBy, ini_X1, co_X1_isOwnedBy, nd_X1_isOwnedBy⟩
theorem mk_X8_104 : MLk RX8 104 yX7_placeOf cX7_placeOf 6 (some .int) 2 := ⟨mlX8_104, im_X7_placeOf, se_X7_placeOf, ini_X7, co_X7_placeOf, nd_X7_placeOf⟩
theorem mk_X8_109 : MLk RX8 109 yX3_giveBack cX3_giveBack 5 (some .int) 2 := ⟨mlX8_109, im_X3_giveBack, se_X3_giveBack, ini_X3, co_X3_giveBack, nd_X3_giveBack⟩
theorem nd_X3_callIn : (yX3_callIn).cls ≠ "java/lang/invoke/MethodHandle" ∧ (yX3_callIn).cls ≠ "java/lang/invoke/VarHandle" ∧ (parseMethodDescriptor (yX3_callIn).desc).map (fun d => d.parameters.length) = some 1 := by decide +kernel
theorem mk_X8_112 : MLk RX8 112 yX3_callIn cX3_callIn 3 (some .int) 1 := ⟨mlX8_112, im_X3_callIn, se_X3_callIn, ini_X3, co_X3_callIn, nd_X3_callIn⟩
theorem nd_X9_read : (yX9_read).cls ≠ "java/lang/invoke/MethodHandle" ∧ (yX9_read).cls ≠ "java/lang/invoke/VarHandle" ∧ (parseMethodDescriptor (yX9_read).desc).map (fun d => d.parameters.length) = some 2 := by decide +kernel
theorem mk_L_21 : MLk RL 21 yX9_read cX9_read 3 (some .int) 2 := ⟨mlL_21, im_X9_read, se_X9_read, ini_X9, co_X9_read, nd_X9_read⟩
theorem nd_X9_tryRead : (yX9_tryRead).cls ≠ "java/lang/invoke/MethodHandle" ∧ (yX9_tryRead).cls ≠ "java/lang/invoke/VarHandle" ∧ (parseMethodDescriptor (yX9_tryRead).desc).map (fun d => d.parameters.length) = some 3 := by decide +kernel
theorem mk_X9_146 : MLk RX9 146 yX9_tryRead cX9_tryRead 4 (some .int) 3 := ⟨mlX9_146, im_X9_tryRead, se_X9_tryRead, ini_X9, co_X9_tryRead, nd_X9_tryRead⟩
theorem nd_X9_isReader : (yX9_isReader).cls ≠ "java/lang/invoke/MethodHandle" ∧ (yX9_isReader).cls ≠ "java/lang/invoke/VarHandle" ∧ (parseMethodDescriptor (yX9_isReader).desc).map (fun d => d.parameters.length) = some 1 := by decide +kernel
theorem mk_X9_129 : MSk RX9 129 yX9_isReader cX9_isReader 1 (some .boolean) 1 := ⟨mlX9_129, st_X9_isReader, ini_X9, co_X9_isReader, nd_X9_isReader⟩
theorem nd_X9_isNote : (yX9_isNote).cls ≠ "java/lang/invoke/MethodHandle" ∧ (yX9_isNote).cls ≠ "java/lang/invoke/VarHandle" ∧ (parseMethodDescriptor (yX9_isNote).desc).map (fun d => d.parameters.length) = some 1 := by decide +kernel
theorem mk_X9_133 : MSk RX9 133 yX9_isNote cX9_isNote 1 (some .boolean) 1 := ⟨mlX9_133, st_X9_isNote, ini_X9, co_X9_isNote, nd_X9_isNote⟩
theorem nd_X9_keepIf : (yX9_keepIf).cls ≠ "java/lang/invoke/MethodHandle" ∧ (yX9_keepIf).cls ≠ "java/lang/invoke/VarHandle" ∧ (parseMethodDescriptor (yX9_keepIf).desc).map (fun d => d.parameters.length) = some 1 := by decide +kernel
theorem mk_X9_136 : MLk RX9 136 yX9_keepIf cX9_keepIf 2 none 1 := ⟨mlX9_136, im_X9_keepIf, se_X9_keepIf, ini_X9, co_X9_keepIf, nd_X9_keepIf⟩
theorem nd_X9_enter : (yX9_enter).cls ≠ "java/lang/invoke/MethodHandle" ∧ (yX9_enter).cls ≠ "java/lang/invoke/VarHandle" ∧ (parseMethodDescriptor (yX9_enter).desc).map (fun d => d.parameters.length) = some 3 := by decide +kernel
theorem mk_X9_140 : MLk RX9 140 yX9_enter cX9_enter 5 none 3 := ⟨mlX9_140, im_X9_enter, se_X9_enter, ini_X9, co_X9_enter, nd_X9_enter⟩
theorem nd_X9_reads : (yX9_reads).cls ≠ "java/lang/invoke/MethodHandle" ∧ (yX9_reads).cls ≠ "java/lang/invoke/VarHandle" ∧ (parseMethodDescriptor (yX9_reads).desc).map (fun d => d.parameters.length) = some 2 := by decide +kernel
theorem mk_X9_143 : MLk RX9 143 yX9_reads cX9_reads 4 (some .int) 2 := ⟨mlX9_143, im_X9_reads, se_X9_reads, ini_X9, co_X9_reads, nd_X9_reads⟩
theorem nd_X9_moreR : (yX9_moreR).cls ≠ "java/lang/invoke/MethodHandle" ∧ (yX9_moreR).cls ≠ "java/lang/invoke/VarHandle" ∧ (parseMethodDescriptor (yX9_moreR).desc).map (fun d => d.parameters.length) = some 3 := by decide +kernel
theorem mk_X9_57 : MLk RX9 57 yX9_moreR cX9_moreR 4 none 3 := ⟨mlX9_57, im_X9_moreR, se_X9_moreR, ini_X9, co_X9_moreR, nd_X9_moreR⟩
theorem nd_X9_placeOf : (yX9_placeOf).cls ≠ "java/lang/invoke/MethodHandle" ∧ (yX9_placeOf).cls ≠ "java/lang/invoke/VarHandle" ∧ (parseMethodDescriptor (yX9_placeOf).desc).map (fun d => d.parameters.length) = some 2 := by decide +kernel
theorem mk_X9_95 : MLk RX9 95 yX9_placeOf cX9_placeOf 4 (some .int) 2 := ⟨mlX9_95, im_X9_placeOf, se_X9_placeOf, ini_X9, co_X9_placeOf, nd_X9_placeOf⟩
theorem nd_X9_ofR : (yX9_ofR).cls ≠ "java/lang/invoke/MethodHandle" ∧ (yX9_ofR).cls ≠ "java/lang/invoke/VarHandle" ∧ (parseMethodDescriptor (yX9_ofR).desc).map (fun d => d.parameters.length) = some 2 := by decide +kernel
theorem mk_X9_49 : MLk RX9 49 yX9_ofR cX9_ofR 3 (some .int) 2 := ⟨mlX9_49, im_X9_ofR, se_X9_ofR, ini_X9, co_X9_ofR, nd_X9_ofR⟩
theorem nd_X9_ofC : (yX9_ofC).cls ≠ "java/lang/invoke/MethodHandle" ∧ (yX9_ofC).cls ≠ "java/lang/invoke/VarHandle" ∧ (parseMethodDescriptor (yX9_ofC).desc).map (fun d => d.parameters.length) = some 3 := by decide +kernel
theorem mk_X9_53 : MLk RX9 53 yX9_ofC cX9_ofC 4 (some .int) 3 := ⟨mlX9_53, im_X9_ofC, se_X9_ofC, ini_X9, co_X9_ofC, nd_X9_ofC⟩
theorem nd_X9_use : (yX9_use).cls ≠ "java/lang/invoke/MethodHandle" ∧ (yX9_use).cls ≠ "java/lang/invoke/VarHandle" ∧ (parseMethodDescriptor (yX9_use).desc).map (fun d => d.parameters.length) = some 2 := by decide +kernel
theorem mk_X9_117 : MLk RX9 117 yX9_use cX9_use 6 none 2 := ⟨mlX9_117, im_X9_use, se_X9_use, ini_X9, co_X9_use, nd_X9_use⟩
theorem nd_X9_takeOff : (yX9_takeOff).cls ≠ "java/lang/invoke/MethodHandle" ∧ (yX9_takeOff).cls ≠ "java/lang/invoke/VarHandle" ∧ (parseMethodDescriptor (yX9_takeOff).desc).map (fun d => d.parameters.length) = some 2 := by decide +kernel
theorem mk_X9_65 : MLk RX9 65 yX9_takeOff cX9_takeOff 4 none 2 := ⟨mlX9_65, im_X9_takeOff, se_X9_takeOff, ini_X9, co_X9_takeOff, nd_X9_takeOff⟩
theorem nd_X9_layOn : (yX9_layOn).cls ≠ "java/lang/invoke/MethodHandle" ∧ (yX9_layOn).cls ≠ "java/lang/invoke/VarHandle" ∧ (parseMethodDescriptor (yX9_layOn).desc).map (fun d => d.parameters.length) = some 4 := by decide +kernel
theorem mk_X9_69 : MLk RX9 69 yX9_layOn cX9_layOn 6 none 4 := ⟨mlX9_69, im_X9_layOn, se_X9_layOn, ini_X9, co_X9_layOn, nd_X9_layOn⟩
theorem nd_X9_layC : (yX9_layC).cls ≠ "java/lang/invoke/MethodHandle" ∧ (yX9_layC).cls ≠ "java/lang/invoke/VarHandle" ∧ (parseMethodDescriptor (yX9_layC).desc).map (fun d => d.parameters.length) = some 4 := by decide +kernel
theorem mk_X9_61 : MLk RX9 61 yX9_layC cX9_layC 5 none 4 := ⟨mlX9_61, im_X9_layC, se_X9_layC, ini_X9, co_X9_layC, nd_X9_layC⟩
theorem nd_X9_callBackBut : (yX9_callBackBut).cls ≠ "java/lang/invoke/MethodHandle" ∧ (yX9_callBackBut).cls ≠ "java/lang/invoke/VarHandle" ∧ (parseMethodDescriptor (yX9_callBackBut).desc).map (fun d => d.parameters.length) = some 2 := by decide +kernel
theorem mk_X9_120 : MLk RX9 120 yX9_callBackBut cX9_callBackBut 6 none 2 := ⟨mlX9_120, im_X9_callBackBut, se_X9_callBackBut, ini_X9, co_X9_callBackBut, nd_X9_callBackBut⟩
theorem nd_X9_called : (yX9_called).cls ≠ "java/lang/invoke/MethodHandle" ∧ (yX9_called).cls ≠ "java/lang/invoke/VarHandle" ∧ (parseMethodDescriptor (yX9_called).desc).map (fun d => d.parameters.length) = some 1 := by decide +kernel
theorem mk_X9_101 : MLk RX9 101 yX9_called cX9_called 5 (some .int) 1 := ⟨mlX9_101, im_X9_called, se_X9_called, ini_X9, co_X9_called, nd_X9_called⟩
theorem nd_X9_group : (yX9_group).cls ≠ "java/lang/invoke/MethodHandle" ∧ (yX9_group).cls ≠ "java/lang/invoke/VarHandle" ∧ (parseMethodDescriptor (yX9_group).desc).map (fun d => d.parameters.length) = some 1 := by decide +kernel
theorem mk_X9_78 : MLk RX9 78 yX9_group cX9_group 2 (some .int) 1 := ⟨mlX9_78, im_X9_group, se_X9_group, ini_X9, co_X9_group, nd_X9_group⟩
theorem nd_X9_has : (yX9_has).cls ≠ "java/lang/invoke/MethodHandle" ∧ (yX9_has).cls ≠ "java/lang/invoke/VarHandle" ∧ (parseMethodDescriptor (yX9_has).desc).map (fun d => d.parameters.length) = some 2 := by decide +kernel
theorem mk_X9_82 : MSk RX9 82 yX9_has cX9_has 2 (some .boolean) 2 := ⟨mlX9_82, st_X9_has, ini_X9, co_X9_has, nd_X9_has⟩
theorem nd_X9_callBack : (yX9_callBack).cls ≠ "java/lang/invoke/MethodHandle" ∧ (yX9_callBack).cls ≠ "java/lang/invoke/VarHandle" ∧ (parseMethodDescriptor (yX9_callBack).desc).map (fun d => d.parameters.length) = some 2 := by decide +kernel
theorem mk_X9_104 : MLk RX9 104 yX9_callBack cX9_callBack 4 none 2 := ⟨mlX9_104, im_X9_callBack, se_X9_callBack, ini_X9, co_X9_callBack, nd_X9_callBack⟩
theorem nd_X9_giveBack : (yX9_giveBack).cls ≠ "java/lang/invoke/MethodHandle" ∧ (yX9_giveBack).cls ≠ "java/lang/invoke/VarHandle" ∧ (parseMethodDescriptor (yX9_giveBack).desc).map (fun d => d.parameters.length) = some 2 := by decide +kernel
theorem mk_X9_98 : MLk RX9 98 yX9_giveBack cX9_giveBack 3 none 2 := ⟨mlX9_98, im_X9_giveBack, se_X9_giveBack, ini_X9, co_X9_giveBack, nd_X9_giveBack⟩
theorem nd_X9_layN : (yX9_layN).cls ≠ "java/lang/invoke/MethodHandle" ∧ (yX9_layN).cls ≠ "java/lang/invoke/VarHandle" ∧ (parseMethodDescriptor (yX9_layN).desc).map (fun d => d.parameters.length) = some 3 := by decide +kernel
theorem mk_X9_72 : MLk RX9 72 yX9_layN cX9_layN 4 none 3 := ⟨mlX9_72, im_X9_layN, se_X9_layN, ini_X9, co_X9_layN, nd_X9_layN⟩
theorem nd_X9_layCard : (yX9_layCard).cls ≠ "java/lang/invoke/MethodHandle" ∧ (yX9_layCard).cls ≠ "java/lang/invoke/VarHandle" ∧ (parseMethodDescriptor (yX9_layCard).desc).map (fun d => d.parameters.length) = some 3 := by decide +kernel
theorem mk_X9_86 : MLk RX9 86 yX9_layCard cX9_layCard 4 none 3 := ⟨mlX9_86, im_X9_layCard, se_X9_layCard, ini_X9, co_X9_layCard, nd_X9_layCard⟩
theorem nd_X9_ask : (yX9_ask).cls ≠ "java/lang/invoke/MethodHandle" ∧ (yX9_ask).cls ≠ "java/lang/invoke/VarHandle" ∧ (parseMethodDescriptor (yX9_ask).desc).map (fun d => d.parameters.length) = some 2 := by decide +kernel
theorem mk_X9_123 : MLk RX9 123 yX9_ask cX9_ask 3 none 2 := ⟨mlX9_123, im_X9_ask, se_X9_ask, ini_X9, co_X9_ask, nd_X9_ask⟩
theorem nd_X9_makeRoom : (yX9_makeRoom).cls ≠ "java/lang/invoke/MethodHandle" ∧ (yX9_makeRoom).cls ≠ "java/lang/invoke/VarHandle" ∧ (parseMethodDescriptor (yX9_makeRoom).desc).map (fun d => d.parameters.length) = some 1 := by decide +kernel
theorem mk_X9_113 : MLk RX9 113 yX9_makeRoom cX9_makeRoom 2 none 1 := ⟨mlX9_113, im_X9_makeRoom, se_X9_makeRoom, ini_X9, co_X9_makeRoom, nd_X9_makeRoom⟩
theorem nd_X9_returned : (yX9_returned).cls ≠ "java/lang/invoke/MethodHandle" ∧ (yX9_returned).cls ≠ "java/lang/invoke/VarHandle" ∧ (parseMethodDescriptor (yX9_returned).desc).map (fun d => d.parameters.length) = some 2 := by decide +kernel
theorem mk_X9_110 : MLk RX9 110 yX9_returned cX9_returned 5 (some .int) 2 := ⟨mlX9_110, im_X9_returned, se_X9_returned, ini_X9, co_X9_returned, nd_X9_returned⟩
theorem nd_X9_strike : (yX9_strike).cls ≠ "java/lang/invoke/MethodHandle" ∧ (yX9_strike).cls ≠ "java/lang/invoke/VarHandle" ∧ (parseMethodDescriptor (yX9_strike).desc).map (fun d => d.parameters.length) = some 2 := by decide +kernel
theorem mk_X9_107 : MLk RX9 107 yX9_strike cX9_strike 4 none 2 := ⟨mlX9_107, im_X9_strike, se_X9_strike, ini_X9, co_X9_strike, nd_X9_strike⟩
theorem nd_X9_writeOn : (yX9_writeOn).cls ≠ "java/lang/invoke/MethodHandle" ∧ (yX9_writeOn).cls ≠ "java/lang/invoke/VarHandle" ∧ (parseMethodDescriptor (yX9_writeOn).desc).map (fun d => d.parameters.length) = some 2 := by decide +kernel
theorem mk_X9_126 : MLk RX9 126 yX9_writeOn cX9_writeOn 5 none 2 := ⟨mlX9_126, im_X9_writeOn, se_X9_writeOn, ini_X9, co_X9_writeOn, nd_X9_writeOn⟩
theorem nd_X9_many : (yX9_many).cls ≠ "java/lang/invoke/MethodHandle" ∧ (yX9_many).cls ≠ "java/lang/invoke/VarHandle" ∧ (parseMethodDescriptor (yX9_many).desc).map (fun d => d.parameters.length) = some 1 := by decide +kernel
theorem mk_X9_89 : MSk RX9 89 yX9_many cX9_many 3 (some .int) 1 := ⟨mlX9_89, st_X9_many, ini_X9, co_X9_many, nd_X9_many⟩
theorem nd_X9_groupsOf : (yX9_groupsOf).cls ≠ "java/lang/invoke/MethodHandle" ∧ (yX9_groupsOf).cls ≠ "java/lang/invoke/VarHandle" ∧ (parseMethodDescriptor (yX9_groupsOf).desc).map (fun d => d.parameters.length) = some 1 := by decide +kernel
theorem mk_X9_92 : MLk RX9 92 yX9_groupsOf cX9_groupsOf 4 (some .int) 1 := ⟨mlX9_92, im_X9_groupsOf, se_X9_groupsOf, ini_X9, co_X9_groupsOf, nd_X9_groupsOf⟩
theorem nd_X8_change : (yX8_change).cls ≠ "java/lang/invoke/MethodHandle" ∧ (yX8_change).cls ≠ "java/lang/invoke/VarHandle" ∧ (parseMethodDescriptor (yX8_change).desc).map (fun d => d.parameters.length) = some 3 := by decide +kernel
theorem mk_L_22 : MLk RL 22 yX8_change cX8_change 4 (some .int) 3 := ⟨mlL_22, im_X8_change, se_X8_change, ini_X8, co_X8_change, nd_X8_change⟩
theorem nd_X9_change : (yX9_change).cls ≠ "java/lang/invoke/MethodHandle" ∧ (yX9_change).cls ≠ "java/lang/invoke/VarHandle" ∧ (parseMethodDescriptor (yX9_change).desc).map (fun d => d.parameters.length) = some 3 := by decide +kernel
theorem mk_L_26 : MLk RL 26 yX9_change cX9_change 4 (some .int) 3 := ⟨mlL_26, im_X9_change, se_X9_change, ini_X9, co_X9_change, nd_X9_change⟩
theorem nd_X9_tryChange : (yX9_tryChange).cls ≠ "java/lang/invoke/MethodHandle" ∧ (yX9_tryChange).cls ≠ "java/lang/invoke/VarHandle" ∧ (parseMethodDescriptor (yX9_tryChange).desc).map (fun d => d.parameters.length) = some 4 := by decide +kernel
theorem mk_X9_153 : MLk RX9 153 yX9_tryChange cX9_tryChange 5 (some .int) 4 := ⟨mlX9_153, im_X9_tryChange, se_X9_tryChange, ini_X9, co_X9_tryChange, nd_X9_tryChange⟩
theorem nd_X9_changes : (yX9_changes).cls ≠ "java/lang/invoke/MethodHandle" ∧ (yX9_changes).cls ≠ "java/lang/invoke/VarHandle" ∧ (parseMethodDescriptor (yX9_changes).desc).map (fun d => d.parameters.length) = some 3 := by decide +kernel
theorem mk_X9_150 : MLk RX9 150 yX9_changes cX9_changes 6 (some .int) 3 := ⟨mlX9_150, im_X9_changes, se_X9_changes, ini_X9, co_X9_changes, nd_X9_changes⟩
theorem nd_X8_putBack : (yX8_putBack).cls ≠ "java/lang/invoke/MethodHandle" ∧ (yX8_putBack).cls ≠ "java/lang/invoke/VarHandle" ∧ (parseMethodDescriptor (yX8_putBack).desc).map (fun d => d.parameters.length) = some 2 := by decide +kernel
theorem mk_L_27 : MLk RL 27 yX8_putBack cX8_putBack 3 (some .int) 2 := ⟨mlL_27, im_X8_putBack, se_X8_putBack, ini_X8, co_X8_putBack, nd_X8_putBack⟩
theorem nd_X9_putBack : (yX9_putBack).cls ≠ "java/lang/invoke/MethodHandle" ∧ (yX9_putBack).cls ≠ "java/lang/invoke/VarHandle" ∧ (parseMethodDescriptor (yX9_putBack).desc).map (fun d => d.parameters.length) = some 2 := by decide +kernel
theorem mk_L_30 : MLk RL 30 yX9_putBack cX9_putBack 3 (some .int) 2 := ⟨mlL_30, im_X9_putBack, se_X9_putBack, ini_X9, co_X9_putBack, nd_X9_putBack⟩
theorem nd_X9_tryPutBack : (yX9_tryPutBack).cls ≠ "java/lang/invoke/MethodHandle" ∧ (yX9_tryPutBack).cls ≠ "java/lang/invoke/VarHandle" ∧ (parseMethodDescriptor (yX9_tryPutBack).desc).map (fun d => d.parameters.length) = some 3 := by decide +kernel
theorem mk_X9_157 : MLk RX9 157 yX9_tryPutBack cX9_tryPutBack 5 (some .int) 3 := ⟨mlX9_157, im_X9_tryPutBack, se_X9_tryPutBack, ini_X9, co_X9_tryPutBack, nd_X9_tryPutBack⟩
theorem nd_X8_recall : (yX8_recall).cls ≠ "java/lang/invoke/MethodHandle" ∧ (yX8_recall).cls ≠ "java/lang/invoke/VarHandle" ∧ (parseMethodDescriptor (yX8_recall).desc).map (fun d => d.parameters.length) = some 1 := by decide +kernel
theorem mk_L_31 : MLk RL 31 yX8_recall cX8_recall 2 (some .int) 1 := ⟨mlL_31, im_X8_recall, se_X8_recall, ini_X8, co_X8_recall, nd_X8_recall⟩
theorem nd_X9_recall : (yX9_recall).cls ≠ "java/lang/invoke/MethodHandle" ∧ (yX9_recall).cls ≠ "java/lang/invoke/VarHandle" ∧ (parseMethodDescriptor (yX9_recall).desc).map (fun d => d.parameters.length) = some 1 := by decide +kernel
theorem mk_L_35 : MLk RL 35 yX9_recall cX9_recall 2 (some .int) 1 := ⟨mlL_35, im_X9_recall, se_X9_recall, ini_X9, co_X9_recall, nd_X9_recall⟩
theorem nd_X9_tryRecall : (yX9_tryRecall).cls ≠ "java/lang/invoke/MethodHandle" ∧ (yX9_tryRecall).cls ≠ "java/lang/invoke/VarHandle" ∧ (parseMethodDescriptor (yX9_tryRecall).desc).map (fun d => d.parameters.length) = some 2 := by decide +kernel
theorem mk_X9_160 : MLk RX9 160 yX9_tryRecall cX9_tryRecall 4 (some .int) 2 := ⟨mlX9_160, im_X9_tryRecall, se_X9_tryRecall, ini_X9, co_X9_tryRecall, nd_X9_tryRecall⟩
theorem nd_X8_ofNote : (yX8_ofNote).cls ≠ "java/lang/invoke/MethodHandle" ∧ (yX8_ofNote).cls ≠ "java/lang/invoke/VarHandle" ∧ (parseMethodDescriptor (yX8_ofNote).desc).map (fun d => d.parameters.length) = some 2 := by decide +kernel
theorem mk_L_36 : MLk RL 36 yX8_ofNote cX8_ofNote 5 (some .int) 2 := ⟨mlL_36, im_X8_ofNote, se_X8_ofNote, ini_X8, co_X8_ofNote, nd_X8_ofNote⟩
theorem nd_X8_isNote : (yX8_isNote).cls ≠ "java/lang/invoke/MethodHandle" ∧ (yX8_isNote).cls ≠ "java/lang/invoke/VarHandle" ∧ (parseMethodDescriptor (yX8_isNote).desc).map (fun d => d.parameters.length) = some 1 := by decide +kernel
theorem mk_X8_115 : MSk RX8 115 yX8_isNote cX8_isNote 1 (some .boolean) 1 := ⟨mlX8_115, st_X8_isNote, ini_X8, co_X8_isNote, nd_X8_isNote⟩
theorem mk_X8_119 : MLk RX8 119 yX3_called cX3_called 2 (some .int) 1 := ⟨mlX8_119, im_X3_called, se_X3_called, ini_X3, co_X3_called, nd_X3_called⟩
theorem mk_X8_134 : MSk RX8 134 yJ6_bitCount_0f7a4 cJ6_bitCount_0f7a4 1 (some .int) 1 := ⟨mlX8_134, st_J6_bitCount_0f7a4, ini_J6, co_J6_bitCount_0f7a4, nd_J6_bitCount_0f7a4⟩
theorem nd_X3_valueToRead : (yX3_valueToRead).cls ≠ "java/lang/invoke/MethodHandle" ∧ (yX3_valueToRead).cls ≠ "java/lang/invoke/VarHandle" ∧ (parseMethodDescriptor (yX3_valueToRead).desc).map (fun d => d.parameters.length) = some 1 := by decide +kernel
theorem mk_X8_139 : MLk RX8 139 yX3_valueToRead cX3_valueToRead 3 (some .int) 1 := ⟨mlX8_139, im_X3_valueToRead, se_X3_valueToRead, ini_X3, co_X3_valueToRead, nd_X3_valueToRead⟩
theorem nd_X9_ofNote : (yX9_ofNote).cls ≠ "java/lang/invoke/MethodHandle" ∧ (yX9_ofNote).cls ≠ "java/lang/invoke/VarHandle" ∧ (parseMethodDescriptor (yX9_ofNote).desc).map (fun d => d.parameters.length) = some 2 := by decide +kernel
theorem mk_L_39 : MLk RL 39 yX9_ofNote cX9_ofNote 3 (some .int) 2 := ⟨mlL_39, im_X9_ofNote, se_X9_ofNote, ini_X9, co_X9_ofNote, nd_X9_ofNote⟩
theorem nd_X9_holders : (yX9_holders).cls ≠ "java/lang/invoke/MethodHandle" ∧ (yX9_holders).cls ≠ "java/lang/invoke/VarHandle" ∧ (parseMethodDescriptor (yX9_holders).desc).map (fun d => d.parameters.length) = some 1 := by decide +kernel
theorem mk_X9_167 : MLk RX9 167 yX9_holders cX9_holders 4 (some .int) 1 := ⟨mlX9_167, im_X9_holders, se_X9_holders, ini_X9, co_X9_holders, nd_X9_holders⟩
theorem nd_X9_valueNow : (yX9_valueNow).cls ≠ "java/lang/invoke/MethodHandle" ∧ (yX9_valueNow).cls ≠ "java/lang/invoke/VarHandle" ∧ (parseMethodDescriptor (yX9_valueNow).desc).map (fun d => d.parameters.length) = some 1 := by decide +kernel
theorem mk_X9_170 : MLk RX9 170 yX9_valueNow cX9_valueNow 5 (some .int) 1 := ⟨mlX9_170, im_X9_valueNow, se_X9_valueNow, ini_X9, co_X9_valueNow, nd_X9_valueNow⟩
theorem nd_X8_onShelf : (yX8_onShelf).cls ≠ "java/lang/invoke/MethodHandle" ∧ (yX8_onShelf).cls ≠ "java/lang/invoke/VarHandle" ∧ (parseMethodDescriptor (yX8_onShelf).desc).map (fun d => d.parameters.length) = some 3 := by decide +kernel
theorem mk_L_40 : MLk RL 40 yX8_onShelf cX8_onShelf 4 (some .int) 3 := ⟨mlL_40, im_X8_onShelf, se_X8_onShelf, ini_X8, co_X8_onShelf, nd_X8_onShelf⟩
theorem nd_X8_isReader : (yX8_isReader).cls ≠ "java/lang/invoke/MethodHandle" ∧ (yX8_isReader).cls ≠ "java/lang/invoke/VarHandle" ∧ (parseMethodDescriptor (yX8_isReader).desc).map (fun d => d.parameters.length) = some 1 := by decide +kernel
theorem mk_X8_148 : MSk RX8 148 yX8_isReader cX8_isReader 1 (some .boolean) 1 := ⟨mlX8_148, st_X8_isReader, ini_X8, co_X8_isReader, nd_X8_isReader⟩
theorem mk_X8_154 : MLk RX8 154 yX7_noteAt cX7_noteAt 3 (some .int) 2 := ⟨mlX8_154, im_X7_noteAt, se_X7_noteAt, ini_X7, co_X7_noteAt, nd_X7_noteAt⟩
theorem mk_X8_157 : MLk RX8 157 yX7_valueAt cX7_valueAt 3 (some .int) 2 := ⟨mlX8_157, im_X7_valueAt, se_X7_valueAt, ini_X7, co_X7_valueAt, nd_X7_valueAt⟩
theorem mk_X8_160 : MLk RX8 160 yX7_isChangedAt cX7_isChangedAt 3 (some .boolean) 2 := ⟨mlX8_160, im_X7_isChangedAt, se_X7_isChangedAt, ini_X7, co_X7_isChangedAt, nd_X7_isChangedAt⟩
theorem nd_X9_onShelf : (yX9_onShelf).cls ≠ "java/lang/invoke/MethodHandle" ∧ (yX9_onShelf).cls ≠ "java/lang/invoke/VarHandle" ∧ (parseMethodDescriptor (yX9_onShelf).desc).map (fun d => d.parameters.length) = some 3 := by decide +kernel
theorem mk_L_43 : MLk RL 43 yX9_onShelf cX9_onShelf 4 (some .int) 3 := ⟨mlL_43, im_X9_onShelf, se_X9_onShelf, ini_X9, co_X9_onShelf, nd_X9_onShelf⟩
theorem nd_X8_ofReader : (yX8_ofReader).cls ≠ "java/lang/invoke/MethodHandle" ∧ (yX8_ofReader).cls ≠ "java/lang/invoke/VarHandle" ∧ (parseMethodDescriptor (yX8_ofReader).desc).map (fun d => d.parameters.length) = some 2 := by decide +kernel
theorem mk_L_44 : MLk RL 44 yX8_ofReader cX8_ofReader 3 (some .int) 2 := ⟨mlL_44, im_X8_ofReader, se_X8_ofReader, ini_X8, co_X8_ofReader, nd_X8_ofReader⟩
theorem nd_X8_groupOf : (yX8_groupOf).cls ≠ "java/lang/invoke/MethodHandle" ∧ (yX8_groupOf).cls ≠ "java/lang/invoke/VarHandle" ∧ (parseMethodDescriptor (yX8_groupOf).desc).map (fun d => d.parameters.length) = some 2 := by decide +kernel
theorem mk_X8_163 : MSk RX8 163 yX8_groupOf cX8_groupOf 2 (some .int) 2 := ⟨mlX8_163, st_X8_groupOf, ini_X8, co_X8_groupOf, nd_X8_groupOf⟩
theorem nd_X3_notesThatCall : (yX3_notesThatCall).cls ≠ "java/lang/invoke/MethodHandle" ∧ (yX3_notesThatCall).cls ≠ "java/lang/invoke/VarHandle" ∧ (parseMethodDescriptor (yX3_notesThatCall).desc).map (fun d => d.parameters.length) = some 1 := by decide +kernel
theorem mk_X8_178 : MLk RX8 178 yX3_notesThatCall cX3_notesThatCall 4 (some .int) 1 := ⟨mlX8_178, im_X3_notesThatCall, se_X3_notesThatCall, ini_X3, co_X3_notesThatCall, nd_X3_notesThatCall⟩
theorem nd_X9_ofReader : (yX9_ofReader).cls ≠ "java/lang/invoke/MethodHandle" ∧ (yX9_ofReader).cls ≠ "java/lang/invoke/VarHandle" ∧ (parseMethodDescriptor (yX9_ofReader).desc).map (fun d => d.parameters.length) = some 2 := by decide +kernel
theorem mk_L_47 : MLk RL 47 yX9_ofReader cX9_ofReader 3 (some .int) 2 := ⟨mlL_47, im_X9_ofReader, se_X9_ofReader, ini_X9, co_X9_ofReader, nd_X9_ofReader⟩
theorem nd_X9_callers : (yX9_callers).cls ≠ "java/lang/invoke/MethodHandle" ∧ (yX9_callers).cls ≠ "java/lang/invoke/VarHandle" ∧ (parseMethodDescriptor (yX9_callers).desc).map (fun d => d.parameters.length) = some 1 := by decide +kernel
theorem mk_X9_173 : MLk RX9 173 yX9_callers cX9_callers 4 (some .int) 1 := ⟨mlX9_173, im_X9_callers, se_X9_callers, ini_X9, co_X9_callers, nd_X9_callers⟩
theorem nd_X8_count : (yX8_count).cls ≠ "java/lang/invoke/MethodHandle" ∧ (yX8_count).cls ≠ "java/lang/invoke/VarHandle" ∧ (parseMethodDescriptor (yX8_count).desc).map (fun d => d.parameters.length) = some 1 := by decide +kernel
theorem mk_L_48 : MLk RL 48 yX8_count cX8_count 2 (some .int) 1 := ⟨mlL_48, im_X8_count, se_X8_count, ini_X8, co_X8_count, nd_X8_count⟩
theorem nd_X7_howMany : (yX7_howMany).cls ≠ "java/lang/invoke/MethodHandle" ∧ (yX7_howMany).cls ≠ "java/lang/invoke/VarHandle" ∧ (parseMethodDescriptor (yX7_howMany).desc).map (fun d => d.parameters.length) = some 0 := by decide +kernel
theorem mk_X8_184 : MLk RX8 184 yX7_howMany cX7_howMany 3 (some .int) 0 := ⟨mlX8_184, im_X7_howMany, se_X7_howMany, ini_X7, co_X7_howMany, nd_X7_howMany⟩
theorem nd_X7_howManyChanged : (yX7_howManyChanged).cls ≠ "java/lang/invoke/MethodHandle" ∧ (yX7_howManyChanged).cls ≠ "java/lang/invoke/VarHandle" ∧ (parseMethodDescriptor (yX7_howManyChanged).desc).map (fun d => d.parameters.length) = some 0 := by decide +kernel
theorem mk_X8_187 : MLk RX8 187 yX7_howManyChanged cX7_howManyChanged 5 (some .int) 0 := ⟨mlX8_187, im_X7_howManyChanged, se_X7_howManyChanged, ini_X7, co_X7_howManyChanged, nd_X7_howManyChanged⟩
theorem mk_X7_47 : MLk RX7 47 yX7_isChangedAt cX7_isChangedAt 3 (some .boolean) 2 := ⟨mlX7_47, im_X7_isChangedAt, se_X7_isChangedAt, ini_X7, co_X7_isChangedAt, nd_X7_isChangedAt⟩
theorem nd_X1_howManyGrouped : (yX1_howManyGrouped).cls ≠ "java/lang/invoke/MethodHandle" ∧ (yX1_howManyGrouped).cls ≠ "java/lang/invoke/VarHandle" ∧ (parseMethodDescriptor (yX1_howManyGrouped).desc).map (fun d => d.parameters.length) = some 0 := by decide +kernel
theorem mk_X8_190 : MLk RX8 190 yX1_howManyGrouped cX1_howManyGrouped 3 (some .int) 0 := ⟨mlX8_190, im_X1_howManyGrouped, se_X1_howManyGrouped, ini_X1, co_X1_howManyGrouped, nd_X1_howManyGrouped⟩
theorem nd_X9_count : (yX9_count).cls ≠ "java/lang/invoke/MethodHandle" ∧ (yX9_count).cls ≠ "java/lang/invoke/VarHandle" ∧ (parseMethodDescriptor (yX9_count).desc).map (fun d => d.parameters.length) = some 1 := by decide +kernel
theorem mk_L_51 : MLk RL 51 yX9_count cX9_count 2 (some .int) 1 := ⟨mlL_51, im_X9_count, se_X9_count, ini_X9, co_X9_count, nd_X9_count⟩
theorem nd_X9_copies : (yX9_copies).cls ≠ "java/lang/invoke/MethodHandle" ∧ (yX9_copies).cls ≠ "java/lang/invoke/VarHandle" ∧ (parseMethodDescriptor (yX9_copies).desc).map (fun d => d.parameters.length) = some 1 := by decide +kernel
theorem mk_X9_176 : MLk RX9 176 yX9_copies cX9_copies 5 (some .int) 1 := ⟨mlX9_176, im_X9_copies, se_X9_copies, ini_X9, co_X9_copies, nd_X9_copies⟩
theorem nd_X8_costOfReading : (yX8_costOfReading).cls ≠ "java/lang/invoke/MethodHandle" ∧ (yX8_costOfReading).cls ≠ "java/lang/invoke/VarHandle" ∧ (parseMethodDescriptor (yX8_costOfReading).desc).map (fun d => d.parameters.length) = some 2 := by decide +kernel
theorem mk_L_52 : MLk RL 52 yX8_costOfReading cX8_costOfReading 3 (some .int) 2 := ⟨mlL_52, im_X8_costOfReading, se_X8_costOfReading, ini_X8, co_X8_costOfReading, nd_X8_costOfReading⟩
theorem nd_X3_messagesToRead : (yX3_messagesToRead).cls ≠ "java/lang/invoke/MethodHandle" ∧ (yX3_messagesToRead).cls ≠ "java/lang/invoke/VarHandle" ∧ (parseMethodDescriptor (yX3_messagesToRead).desc).map (fun d => d.parameters.length) = some 2 := by decide +kernel
theorem mk_X8_200 : MLk RX8 200 yX3_messagesToRead cX3_messagesToRead 4 (some .int) 2 := ⟨mlX8_200, im_X3_messagesToRead, se_X3_messagesToRead, ini_X3, co_X3_messagesToRead, nd_X3_messagesToRead⟩
theorem nd_X3_messagesToMakeRoom : (yX3_messagesToMakeRoom).cls ≠ "java/lang/invoke/MethodHandle" ∧ (yX3_messagesToMakeRoom).cls ≠ "java/lang/invoke/VarHandle" ∧ (parseMethodDescriptor (yX3_messagesToMakeRoom).desc).map (fun d => d.parameters.length) = some 1 := by decide +kernel
theorem mk_X3_179 : MLk RX3 179 yX3_messagesToMakeRoom cX3_messagesToMakeRoom 5 (some .int) 1 := ⟨mlX3_179, im_X3_messagesToMakeRoom, se_X3_messagesToMakeRoom, ini_X3, co_X3_messagesToMakeRoom, nd_X3_messagesToMakeRoom⟩
theorem nd_X9_costOfReading : (yX9_costOfReading).cls ≠ "java/lang/invoke/MethodHandle" ∧ (yX9_costOfReading).cls ≠ "java/lang/invoke/VarHandle" ∧ (parseMethodDescriptor (yX9_costOfReading).desc).map (fun d => d.parameters.length) = some 2 := by decide +kernel
theorem mk_L_55 : MLk RL 55 yX9_costOfReading cX9_costOfReading 5 (some .int) 2 := ⟨mlL_55, im_X9_costOfReading, se_X9_costOfReading, ini_X9, co_X9_costOfReading, nd_X9_costOfReading⟩
theorem nd_X9_layAside : (yX9_layAside).cls ≠ "java/lang/invoke/MethodHandle" ∧ (yX9_layAside).cls ≠ "java/lang/invoke/VarHandle" ∧ (parseMethodDescriptor (yX9_layAside).desc).map (fun d => d.parameters.length) = some 0 := by decide +kernel
theorem mk_X9_183 : MLk RX9 183 yX9_layAside cX9_layAside 2 none 0 := ⟨mlX9_183, im_X9_layAside, se_X9_layAside, ini_X9, co_X9_layAside, nd_X9_layAside⟩
theorem nd_X9_layBack : (yX9_layBack).cls ≠ "java/lang/invoke/MethodHandle" ∧ (yX9_layBack).cls ≠ "java/lang/invoke/VarHandle" ∧ (parseMethodDescriptor (yX9_layBack).desc).map (fun d => d.parameters.length) = some 0 := by decide +kernel
theorem mk_X9_186 : MLk RX9 186 yX9_layBack cX9_layBack 2 none 0 := ⟨mlX9_186, im_X9_layBack, se_X9_layBack, ini_X9, co_X9_layBack, nd_X9_layBack⟩
theorem nd_X8_costOfChange : (yX8_costOfChange).cls ≠ "java/lang/invoke/MethodHandle" ∧ (yX8_costOfChange).cls ≠ "java/lang/invoke/VarHandle" ∧ (parseMethodDescriptor (yX8_costOfChange).desc).map (fun d => d.parameters.length) = some 3 := by decide +kernel
theorem mk_L_56 : MLk RL 56 yX8_costOfChange cX8_costOfChange 4 (some .int) 3 := ⟨mlL_56, im_X8_costOfChange, se_X8_costOfChange, ini_X8, co_X8_costOfChange, nd_X8_costOfChange⟩
theorem nd_X3_messagesToChange : (yX3_messagesToChange).cls ≠ "java/lang/invoke/MethodHandle" ∧ (yX3_messagesToChange).cls ≠ "java/lang/invoke/VarHandle" ∧ (parseMethodDescriptor (yX3_messagesToChange).desc).map (fun d => d.parameters.length) = some 2 := by decide +kernel
theorem mk_X8_203 : MLk RX8 203 yX3_messagesToChange cX3_messagesToChange 6 (some .int) 2 := ⟨mlX8_203, im_X3_messagesToChange, se_X3_messagesToChange, ini_X3, co_X3_messagesToChange, nd_X3_messagesToChange⟩
theorem mk_X3_185 : MSk RX3 185 yJ6_bitCount_0f7a4 cJ6_bitCount_0f7a4 1 (some .int) 1 := ⟨mlX3_185, st_J6_bitCount_0f7a4, ini_J6, co_J6_bitCount_0f7a4, nd_J6_bitCount_0f7a4⟩
theorem nd_X3_wastedToChange : (yX3_wastedToChange).cls ≠ "java/lang/invoke/MethodHandle" ∧ (yX3_wastedToChange).cls ≠ "java/lang/invoke/VarHandle" ∧ (parseMethodDescriptor (yX3_wastedToChange).desc).map (fun d => d.parameters.length) = some 2 := by decide +kernel
theorem mk_X8_206 : MLk RX8 206 yX3_wastedToChange cX3_wastedToChange 3 (some .int) 2 := ⟨mlX8_206, im_X3_wastedToChange, se_X3_wastedToChange, ini_X3, co_X3_wastedToChange, nd_X3_wastedToChange⟩
theorem nd_X9_costOfChange : (yX9_costOfChange).cls ≠ "java/lang/invoke/MethodHandle" ∧ (yX9_costOfChange).cls ≠ "java/lang/invoke/VarHandle" ∧ (parseMethodDescriptor (yX9_costOfChange).desc).map (fun d => d.parameters.length) = some 3 := by decide +kernel
theorem mk_L_59 : MLk RL 59 yX9_costOfChange cX9_costOfChange 4 (some .int) 3 := ⟨mlL_59, im_X9_costOfChange, se_X9_costOfChange, ini_X9, co_X9_costOfChange, nd_X9_costOfChange⟩
theorem nd_X9_cost : (yX9_cost).cls ≠ "java/lang/invoke/MethodHandle" ∧ (yX9_cost).cls ≠ "java/lang/invoke/VarHandle" ∧ (parseMethodDescriptor (yX9_cost).desc).map (fun d => d.parameters.length) = some 3 := by decide +kernel
theorem mk_X9_189 : MLk RX9 189 yX9_cost cX9_cost 6 (some .int) 3 := ⟨mlX9_189, im_X9_cost, se_X9_cost, ini_X9, co_X9_cost, nd_X9_cost⟩
theorem nd_X8_cheapest : (yX8_cheapest).cls ≠ "java/lang/invoke/MethodHandle" ∧ (yX8_cheapest).cls ≠ "java/lang/invoke/VarHandle" ∧ (parseMethodDescriptor (yX8_cheapest).desc).map (fun d => d.parameters.length) = some 1 := by decide +kernel
theorem mk_L_60 : MLk RL 60 yX8_cheapest cX8_cheapest 6 (some .int) 1 := ⟨mlL_60, im_X8_cheapest, se_X8_cheapest, ini_X8, co_X8_cheapest, nd_X8_cheapest⟩
theorem nd_X9_cheapest : (yX9_cheapest).cls ≠ "java/lang/invoke/MethodHandle" ∧ (yX9_cheapest).cls ≠ "java/lang/invoke/VarHandle" ∧ (parseMethodDescriptor (yX9_cheapest).desc).map (fun d => d.parameters.length) = some 1 := by decide +kernel
theorem mk_L_63 : MLk RL 63 yX9_cheapest cX9_cheapest 6 (some .int) 1 := ⟨mlL_63, im_X9_cheapest, se_X9_cheapest, ini_X9, co_X9_cheapest, nd_X9_cheapest⟩
theorem nd_X8_loudest : (yX8_loudest).cls ≠ "java/lang/invoke/MethodHandle" ∧ (yX8_loudest).cls ≠ "java/lang/invoke/VarHandle" ∧ (parseMethodDescriptor (yX8_loudest).desc).map (fun d => d.parameters.length) = some 1 := by decide +kernel
theorem mk_L_64 : MLk RL 64 yX8_loudest cX8_loudest 6 (some .int) 1 := ⟨mlL_64, im_X8_loudest, se_X8_loudest, ini_X8, co_X8_loudest, nd_X8_loudest⟩
theorem nd_X3_fewestWasted : (yX3_fewestWasted).cls ≠ "java/lang/invoke/MethodHandle" ∧ (yX3_fewestWasted).cls ≠ "java/lang/invoke/VarHandle" ∧ (parseMethodDescriptor (yX3_fewestWasted).desc).map (fun d => d.parameters.length) = some 1 := by decide +kernel
theorem mk_X8_209 : MLk RX8 209 yX3_fewestWasted cX3_fewestWasted 4 (some .int) 1 := ⟨mlX8_209, im_X3_fewestWasted, se_X3_fewestWasted, ini_X3, co_X3_fewestWasted, nd_X3_fewestWasted⟩
theorem nd_X9_loudest : (yX9_loudest).cls ≠ "java/lang/invoke/MethodHandle" ∧ (yX9_loudest).cls ≠ "java/lang/invoke/VarHandle" ∧ (parseMethodDescriptor (yX9_loudest).desc).map (fun d => d.parameters.length) = some 1 := by decide +kernel
theorem mk_L_67 : MLk RL 67 yX9_loudest cX9_loudest 6 (some .int) 1 := ⟨mlL_67, im_X9_loudest, se_X9_loudest, ini_X9, co_X9_loudest, nd_X9_loudest⟩
theorem nd_X9_fewestWasted : (yX9_fewestWasted).cls ≠ "java/lang/invoke/MethodHandle" ∧ (yX9_fewestWasted).cls ≠ "java/lang/invoke/VarHandle" ∧ (parseMethodDescriptor (yX9_fewestWasted).desc).map (fun d => d.parameters.length) = some 1 := by decide +kernel
theorem mk_X9_192 : MLk RX9 192 yX9_fewestWasted cX9_fewestWasted 5 (some .int) 1 := ⟨mlX9_192, im_X9_fewestWasted, se_X9_fewestWasted, ini_X9, co_X9_fewestWasted, nd_X9_fewestWasted⟩
theorem nd_X8_accountWith : (yX8_accountWith).cls ≠ "java/lang/invoke/MethodHandle" ∧ (yX8_accountWith).cls ≠ "java/lang/invoke/VarHandle" ∧ (parseMethodDescriptor (yX8_accountWith).desc).map (fun d => d.parameters.length) = some 2 := by decide +kernel
theorem mk_L_68 : MLk RL 68 yX8_accountWith cX8_accountWith 3 (some .int) 2 := ⟨mlL_68, im_X8_accountWith, se_X8_accountWith, ini_X8, co_X8_accountWith, nd_X8_accountWith⟩
theorem nd_X3_messagesOfAccount : (yX3_messagesOfAccount).cls ≠ "java/lang/invoke/MethodHandle" ∧ (yX3_messagesOfAccount).cls ≠ "java/lang/invoke/VarHandle" ∧ (parseMethodDescriptor (yX3_messagesOfAccount).desc).map (fun d => d.parameters.length) = some 3 := by decide +kernel
theorem mk_X8_212 : MLk RX8 212 yX3_messagesOfAccount cX3_messagesOfAccount 8 (some .int) 3 := ⟨mlX8_212, im_X3_messagesOfAccount, se_X3_messagesOfAccount, ini_X3, co_X3_messagesOfAccount, nd_X3_messagesOfAccount⟩
theorem nd_X1_clear : (yX1_clear).cls ≠ "java/lang/invoke/MethodHandle" ∧ (yX1_clear).cls ≠ "java/lang/invoke/VarHandle" ∧ (parseMethodDescriptor (yX1_clear).desc).map (fun d => d.parameters.length) = some 0 := by decide +kernel
theorem mk_X3_190 : MLk RX3 190 yX1_clear cX1_clear 1 none 0 := ⟨mlX3_190, im_X1_clear, se_X1_clear, ini_X1, co_X1_clear, nd_X1_clear⟩
theorem nd_X6_clear : (yX6_clear).cls ≠ "java/lang/invoke/MethodHandle" ∧ (yX6_clear).cls ≠ "java/lang/invoke/VarHandle" ∧ (parseMethodDescriptor (yX6_clear).desc).map (fun d => d.parameters.length) = some 0 := by decide +kernel
theorem mk_X1_54 : MLk RX1 54 yX6_clear cX6_clear 1 none 0 := ⟨mlX1_54, im_X6_clear, se_X6_clear, ini_X6, co_X6_clear, nd_X6_clear⟩
theorem nd_J7_fill_53178 : (yJ7_fill_53178).cls ≠ "java/lang/invoke/MethodHandle" ∧ (yJ7_fill_53178).cls ≠ "java/lang/invoke/VarHandle" ∧ (parseMethodDescriptor (yJ7_fill_53178).desc).map (fun d => d.parameters.length) = some 2 := by decide +kernel
theorem mk_X6_13 : MSk RX6 13 yJ7_fill_53178 cJ7_fill_53178 4 none 2 := ⟨mlX6_13, st_J7_fill_53178, ini_J7, co_J7_fill_53178, nd_J7_fill_53178⟩
theorem nd_X7_clear : (yX7_clear).cls ≠ "java/lang/invoke/MethodHandle" ∧ (yX7_clear).cls ≠ "java/lang/invoke/VarHandle" ∧ (parseMethodDescriptor (yX7_clear).desc).map (fun d => d.parameters.length) = some 0 := by decide +kernel
theorem mk_X3_193 : MLk RX3 193 yX7_clear cX7_clear 1 none 0 := ⟨mlX3_193, im_X7_clear, se_X7_clear, ini_X7, co_X7_clear, nd_X7_clear⟩
theorem mk_X7_50 : MLk RX7 50 yX6_clear cX6_clear 1 none 0 := ⟨mlX7_50, im_X6_clear, se_X6_clear, ini_X6, co_X6_clear, nd_X6_clear⟩
theorem mk_X3_194 : MLk RX3 194 yX6_clear cX6_clear 1 none 0 := ⟨mlX3_194, im_X6_clear, se_X6_clear, ini_X6, co_X6_clear, nd_X6_clear⟩
theorem mk_X3_199 : MLk RX3 199 yX0_cellOf cX0_cellOf 2 (some .int) 1 := ⟨mlX3_199, im_X0_cellOf, se_X0_cellOf, ini_X0, co_X0_cellOf, nd_X0_cellOf⟩
theorem mk_X3_209 : MLk RX3 209 yX3_rewrite cX3_rewrite 6 (some .int) 3 := ⟨mlX3_209, im_X3_rewrite, se_X3_rewrite, ini_X3, co_X3_rewrite, nd_X3_rewrite⟩
theorem mk_X3_213 : MLk RX3 213 yX3_lend cX3_lend 7 (some .int) 2 := ⟨mlX3_213, im_X3_lend, se_X3_lend, ini_X3, co_X3_lend, nd_X3_lend⟩
theorem nd_X9_accountWith : (yX9_accountWith).cls ≠ "java/lang/invoke/MethodHandle" ∧ (yX9_accountWith).cls ≠ "java/lang/invoke/VarHandle" ∧ (parseMethodDescriptor (yX9_accountWith).desc).map (fun d => d.parameters.length) = some 2 := by decide +kernel
theorem mk_L_71 : MLk RL 71 yX9_accountWith cX9_accountWith 3 (some .int) 2 := ⟨mlL_71, im_X9_accountWith, se_X9_accountWith, ini_X9, co_X9_accountWith, nd_X9_accountWith⟩
theorem nd_X9_messagesWith : (yX9_messagesWith).cls ≠ "java/lang/invoke/MethodHandle" ∧ (yX9_messagesWith).cls ≠ "java/lang/invoke/VarHandle" ∧ (parseMethodDescriptor (yX9_messagesWith).desc).map (fun d => d.parameters.length) = some 2 := by decide +kernel
theorem mk_X9_195 : MLk RX9 195 yX9_messagesWith cX9_messagesWith 7 (some .int) 2 := ⟨mlX9_195, im_X9_messagesWith, se_X9_messagesWith, ini_X9, co_X9_messagesWith, nd_X9_messagesWith⟩
theorem nd_X8_best : (yX8_best).cls ≠ "java/lang/invoke/MethodHandle" ∧ (yX8_best).cls ≠ "java/lang/invoke/VarHandle" ∧ (parseMethodDescriptor (yX8_best).desc).map (fun d => d.parameters.length) = some 1 := by decide +kernel
theorem mk_L_72 : MLk RL 72 yX8_best cX8_best 8 (some .int) 1 := ⟨mlL_72, im_X8_best, se_X8_best, ini_X8, co_X8_best, nd_X8_best⟩
theorem nd_X9_best : (yX9_best).cls ≠ "java/lang/invoke/MethodHandle" ∧ (yX9_best).cls ≠ "java/lang/invoke/VarHandle" ∧ (parseMethodDescriptor (yX9_best).desc).map (fun d => d.parameters.length) = some 1 := by decide +kernel
theorem mk_L_75 : MLk RL 75 yX9_best cX9_best 8 (some .int) 1 := ⟨mlL_75, im_X9_best, se_X9_best, ini_X9, co_X9_best, nd_X9_best⟩
theorem nd_X8_account : (yX8_account).cls ≠ "java/lang/invoke/MethodHandle" ∧ (yX8_account).cls ≠ "java/lang/invoke/VarHandle" ∧ (parseMethodDescriptor (yX8_account).desc).map (fun d => d.parameters.length) = some 0 := by decide +kernel
theorem mk_L_76 : MLk RL 76 yX8_account cX8_account 2 (some .int) 0 := ⟨mlL_76, im_X8_account, se_X8_account, ini_X8, co_X8_account, nd_X8_account⟩
theorem nd_X0_clear : (yX0_clear).cls ≠ "java/lang/invoke/MethodHandle" ∧ (yX0_clear).cls ≠ "java/lang/invoke/VarHandle" ∧ (parseMethodDescriptor (yX0_clear).desc).map (fun d => d.parameters.length) = some 0 := by decide +kernel
theorem mk_X8_224 : MLk RX8 224 yX0_clear cX0_clear 1 none 0 := ⟨mlX8_224, im_X0_clear, se_X0_clear, ini_X0, co_X0_clear, nd_X0_clear⟩
theorem nd_X9_account : (yX9_account).cls ≠ "java/lang/invoke/MethodHandle" ∧ (yX9_account).cls ≠ "java/lang/invoke/VarHandle" ∧ (parseMethodDescriptor (yX9_account).desc).map (fun d => d.parameters.length) = some 0 := by decide +kernel
theorem mk_L_80 : MLk RL 80 yX9_account cX9_account 2 (some .int) 0 := ⟨mlL_80, im_X9_account, se_X9_account, ini_X9, co_X9_account, nd_X9_account⟩
theorem nd_X8_put : (yX8_put).cls ≠ "java/lang/invoke/MethodHandle" ∧ (yX8_put).cls ≠ "java/lang/invoke/VarHandle" ∧ (parseMethodDescriptor (yX8_put).desc).map (fun d => d.parameters.length) = some 1 := by decide +kernel
theorem mk_L_83 : MLk RL 83 yX8_put cX8_put 5 (some .int) 1 := ⟨mlL_83, im_X8_put, se_X8_put, ini_X8, co_X8_put, nd_X8_put⟩
theorem nd_X8_howManyCharacters : (yX8_howManyCharacters).cls ≠ "java/lang/invoke/MethodHandle" ∧ (yX8_howManyCharacters).cls ≠ "java/lang/invoke/VarHandle" ∧ (parseMethodDescriptor (yX8_howManyCharacters).desc).map (fun d => d.parameters.length) = some 1 := by decide +kernel
theorem mk_X8_227 : MSk RX8 227 yX8_howManyCharacters cX8_howManyCharacters 4 (some .int) 1 := ⟨mlX8_227, st_X8_howManyCharacters, ini_X8, co_X8_howManyCharacters, nd_X8_howManyCharacters⟩
theorem nd_X8_codeAt : (yX8_codeAt).cls ≠ "java/lang/invoke/MethodHandle" ∧ (yX8_codeAt).cls ≠ "java/lang/invoke/VarHandle" ∧ (parseMethodDescriptor (yX8_codeAt).desc).map (fun d => d.parameters.length) = some 2 := by decide +kernel
theorem mk_X8_231 : MSk RX8 231 yX8_codeAt cX8_codeAt 3 (some .int) 2 := ⟨mlX8_231, st_X8_codeAt, ini_X8, co_X8_codeAt, nd_X8_codeAt⟩
theorem nd_X5_append : (yX5_append).cls ≠ "java/lang/invoke/MethodHandle" ∧ (yX5_append).cls ≠ "java/lang/invoke/VarHandle" ∧ (parseMethodDescriptor (yX5_append).desc).map (fun d => d.parameters.length) = some 1 := by decide +kernel
theorem mk_X8_235 : MLk RX8 235 yX5_append cX5_append 2 none 1 := ⟨mlX8_235, im_X5_append, se_X5_append, ini_X5, co_X5_append, nd_X5_append⟩
theorem mk_X5_28 : MLk RX5 28 yX6_write cX6_write 3 none 2 := ⟨mlX5_28, im_X6_write, se_X6_write, ini_X6, co_X6_write, nd_X6_write⟩
theorem nd_X9_put : (yX9_put).cls ≠ "java/lang/invoke/MethodHandle" ∧ (yX9_put).cls ≠ "java/lang/invoke/VarHandle" ∧ (parseMethodDescriptor (yX9_put).desc).map (fun d => d.parameters.length) = some 1 := by decide +kernel
theorem mk_L_87 : MLk RL 87 yX9_put cX9_put 7 (some .int) 1 := ⟨mlL_87, im_X9_put, se_X9_put, ini_X9, co_X9_put, nd_X9_put⟩
theorem nd_X8_wipe : (yX8_wipe).cls ≠ "java/lang/invoke/MethodHandle" ∧ (yX8_wipe).cls ≠ "java/lang/invoke/VarHandle" ∧ (parseMethodDescriptor (yX8_wipe).desc).map (fun d => d.parameters.length) = some 0 := by decide +kernel
theorem mk_L_88 : MLk RL 88 yX8_wipe cX8_wipe 2 (some .int) 0 := ⟨mlL_88, im_X8_wipe, se_X8_wipe, ini_X8, co_X8_wipe, nd_X8_wipe⟩
theorem nd_X9_wipe : (yX9_wipe).cls ≠ "java/lang/invoke/MethodHandle" ∧ (yX9_wipe).cls ≠ "java/lang/invoke/VarHandle" ∧ (parseMethodDescriptor (yX9_wipe).desc).map (fun d => d.parameters.length) = some 0 := by decide +kernel
theorem mk_L_91 : MLk RL 91 yX9_wipe cX9_wipe 2 (some .int) 0 := ⟨mlL_91, im_X9_wipe, se_X9_wipe, ini_X9, co_X9_wipe, nd_X9_wipe⟩
theorem nd_X8_fault : (yX8_fault).cls ≠ "java/lang/invoke/MethodHandle" ∧ (yX8_fault).cls ≠ "java/lang/invoke/VarHandle" ∧ (parseMethodDescriptor (yX8_fault).desc).map (fun d => d.parameters.length) = some 0 := by decide +kernel
theorem mk_L_92 : MLk RL 92 yX8_fault cX8_fault 1 (some .int) 0 := ⟨mlL_92, im_X8_fault, se_X8_fault, ini_X8, co_X8_fault, nd_X8_fault⟩
theorem nd_X4_findFault : (yX4_findFault).cls ≠ "java/lang/invoke/MethodHandle" ∧ (yX4_findFault).cls ≠ "java/lang/invoke/VarHandle" ∧ (parseMethodDescriptor (yX4_findFault).desc).map (fun d => d.parameters.length) = some 0 := by decide +kernel
theorem mk_X8_238 : MLk RX8 238 yX4_findFault cX4_findFault 2 (some .int) 0 := ⟨mlX8_238, im_X4_findFault, se_X4_findFault, ini_X4, co_X4_findFault, nd_X4_findFault⟩
theorem nd_X4_takeNext : (yX4_takeNext).cls ≠ "java/lang/invoke/MethodHandle" ∧ (yX4_takeNext).cls ≠ "java/lang/invoke/VarHandle" ∧ (parseMethodDescriptor (yX4_takeNext).desc).map (fun d => d.parameters.length) = some 0 := by decide +kernel
theorem mk_X4_22 : MLk RX4 22 yX4_takeNext cX4_takeNext 1 (some .boolean) 0 := ⟨mlX4_22, im_X4_takeNext, se_X4_takeNext, ini_X4, co_X4_takeNext, nd_X4_takeNext⟩
theorem nd_X4_take : (yX4_take).cls ≠ "java/lang/invoke/MethodHandle" ∧ (yX4_take).cls ≠ "java/lang/invoke/VarHandle" ∧ (parseMethodDescriptor (yX4_take).desc).map (fun d => d.parameters.length) = some 1 := by decide +kernel
theorem mk_X4_29 : MLk RX4 29 yX4_take cX4_take 2 (some .boolean) 1 := ⟨mlX4_29, im_X4_take, se_X4_take, ini_X4, co_X4_take, nd_X4_take⟩
theorem nd_X5_codeAt : (yX5_codeAt).cls ≠ "java/lang/invoke/MethodHandle" ∧ (yX5_codeAt).cls ≠ "java/lang/invoke/VarHandle" ∧ (parseMethodDescriptor (yX5_codeAt).desc).map (fun d => d.parameters.length) = some 1 := by decide +kernel
theorem mk_X4_45 : MLk RX4 45 yX5_codeAt cX5_codeAt 2 (some .int) 1 := ⟨mlX4_45, im_X5_codeAt, se_X5_codeAt, ini_X5, co_X5_codeAt, nd_X5_codeAt⟩
theorem mk_X5_24 : MLk RX5 24 yX6_at cX6_at 2 (some .int) 1 := ⟨mlX5_24, im_X6_at, se_X6_at, ini_X6, co_X6_at, nd_X6_at⟩
theorem nd_X4_takeKind : (yX4_takeKind).cls ≠ "java/lang/invoke/MethodHandle" ∧ (yX4_takeKind).cls ≠ "java/lang/invoke/VarHandle" ∧ (parseMethodDescriptor (yX4_takeKind).desc).map (fun d => d.parameters.length) = some 0 := by decide +kernel
theorem mk_X4_33 : MLk RX4 33 yX4_takeKind cX4_takeKind 1 (some .boolean) 0 := ⟨mlX4_33, im_X4_takeKind, se_X4_takeKind, ini_X4, co_X4_takeKind, nd_X4_takeKind⟩
theorem nd_X4_kindOf : (yX4_kindOf).cls ≠ "java/lang/invoke/MethodHandle" ∧ (yX4_kindOf).cls ≠ "java/lang/invoke/VarHandle" ∧ (parseMethodDescriptor (yX4_kindOf).desc).map (fun d => d.parameters.length) = some 1 := by decide +kernel
theorem mk_X4_49 : MSk RX4 49 yX4_kindOf cX4_kindOf 1 (some .int) 1 := ⟨mlX4_49, st_X4_kindOf, ini_X4, co_X4_kindOf, nd_X4_kindOf⟩
theorem nd_X4_takeReader : (yX4_takeReader).cls ≠ "java/lang/invoke/MethodHandle" ∧ (yX4_takeReader).cls ≠ "java/lang/invoke/VarHandle" ∧ (parseMethodDescriptor (yX4_takeReader).desc).map (fun d => d.parameters.length) = some 0 := by decide +kernel
theorem mk_X4_36 : MLk RX4 36 yX4_takeReader cX4_takeReader 2 (some .boolean) 0 := ⟨mlX4_36, im_X4_takeReader, se_X4_takeReader, ini_X4, co_X4_takeReader, nd_X4_takeReader⟩
theorem nd_X4_takeNumber : (yX4_takeNumber).cls ≠ "java/lang/invoke/MethodHandle" ∧ (yX4_takeNumber).cls ≠ "java/lang/invoke/VarHandle" ∧ (parseMethodDescriptor (yX4_takeNumber).desc).map (fun d => d.parameters.length) = some 0 := by decide +kernel
theorem mk_X4_58 : MLk RX4 58 yX4_takeNumber cX4_takeNumber 4 (some .boolean) 0 := ⟨mlX4_58, im_X4_takeNumber, se_X4_takeNumber, ini_X4, co_X4_takeNumber, nd_X4_takeNumber⟩
theorem nd_X4_isDigit : (yX4_isDigit).cls ≠ "java/lang/invoke/MethodHandle" ∧ (yX4_isDigit).cls ≠ "java/lang/invoke/VarHandle" ∧ (parseMethodDescriptor (yX4_isDigit).desc).map (fun d => d.parameters.length) = some 1 := by decide +kernel
theorem mk_X4_70 : MSk RX4 70 yX4_isDigit cX4_isDigit 1 (some .boolean) 1 := ⟨mlX4_70, st_X4_isDigit, ini_X4, co_X4_isDigit, nd_X4_isDigit⟩
theorem nd_X4_takeNote : (yX4_takeNote).cls ≠ "java/lang/invoke/MethodHandle" ∧ (yX4_takeNote).cls ≠ "java/lang/invoke/VarHandle" ∧ (parseMethodDescriptor (yX4_takeNote).desc).map (fun d => d.parameters.length) = some 0 := by decide +kernel
theorem mk_X4_39 : MLk RX4 39 yX4_takeNote cX4_takeNote 2 (some .boolean) 0 := ⟨mlX4_39, im_X4_takeNote, se_X4_takeNote, ini_X4, co_X4_takeNote, nd_X4_takeNote⟩
theorem nd_X4_takeValue : (yX4_takeValue).cls ≠ "java/lang/invoke/MethodHandle" ∧ (yX4_takeValue).cls ≠ "java/lang/invoke/VarHandle" ∧ (parseMethodDescriptor (yX4_takeValue).desc).map (fun d => d.parameters.length) = some 0 := by decide +kernel
theorem mk_X4_42 : MLk RX4 42 yX4_takeValue cX4_takeValue 2 (some .boolean) 0 := ⟨mlX4_42, im_X4_takeValue, se_X4_takeValue, ini_X4, co_X4_takeValue, nd_X4_takeValue⟩
theorem nd_X9_fault : (yX9_fault).cls ≠ "java/lang/invoke/MethodHandle" ∧ (yX9_fault).cls ≠ "java/lang/invoke/VarHandle" ∧ (parseMethodDescriptor (yX9_fault).desc).map (fun d => d.parameters.length) = some 0 := by decide +kernel
theorem mk_L_95 : MLk RL 95 yX9_fault cX9_fault 1 (some .int) 0 := ⟨mlL_95, im_X9_fault, se_X9_fault, ini_X9, co_X9_fault, nd_X9_fault⟩
theorem nd_X9_takeOrder : (yX9_takeOrder).cls ≠ "java/lang/invoke/MethodHandle" ∧ (yX9_takeOrder).cls ≠ "java/lang/invoke/VarHandle" ∧ (parseMethodDescriptor (yX9_takeOrder).desc).map (fun d => d.parameters.length) = some 0 := by decide +kernel
theorem mk_X9_220 : MLk RX9 220 yX9_takeOrder cX9_takeOrder 2 none 0 := ⟨mlX9_220, im_X9_takeOrder, se_X9_takeOrder, ini_X9, co_X9_takeOrder, nd_X9_takeOrder⟩
theorem nd_X9_next : (yX9_next).cls ≠ "java/lang/invoke/MethodHandle" ∧ (yX9_next).cls ≠ "java/lang/invoke/VarHandle" ∧ (parseMethodDescriptor (yX9_next).desc).map (fun d => d.parameters.length) = some 0 := by decide +kernel
theorem mk_X9_207 : MLk RX9 207 yX9_next cX9_next 1 (some .int) 0 := ⟨mlX9_207, im_X9_next, se_X9_next, ini_X9, co_X9_next, nd_X9_next⟩
theorem nd_X9_takeNumber : (yX9_takeNumber).cls ≠ "java/lang/invoke/MethodHandle" ∧ (yX9_takeNumber).cls ≠ "java/lang/invoke/VarHandle" ∧ (parseMethodDescriptor (yX9_takeNumber).desc).map (fun d => d.parameters.length) = some 1 := by decide +kernel
theorem mk_X9_214 : MLk RX9 214 yX9_takeNumber cX9_takeNumber 3 none 1 := ⟨mlX9_214, im_X9_takeNumber, se_X9_takeNumber, ini_X9, co_X9_takeNumber, nd_X9_takeNumber⟩
theorem nd_X9_takeSign : (yX9_takeSign).cls ≠ "java/lang/invoke/MethodHandle" ∧ (yX9_takeSign).cls ≠ "java/lang/invoke/VarHandle" ∧ (parseMethodDescriptor (yX9_takeSign).desc).map (fun d => d.parameters.length) = some 1 := by decide +kernel
theorem mk_X9_217 : MLk RX9 217 yX9_takeSign cX9_takeSign 2 none 1 := ⟨mlX9_217, im_X9_takeSign, se_X9_takeSign, ini_X9, co_X9_takeSign, nd_X9_takeSign⟩
theorem nd_X8_carryOut : (yX8_carryOut).cls ≠ "java/lang/invoke/MethodHandle" ∧ (yX8_carryOut).cls ≠ "java/lang/invoke/VarHandle" ∧ (parseMethodDescriptor (yX8_carryOut).desc).map (fun d => d.parameters.length) = some 0 := by decide +kernel
theorem mk_L_96 : MLk RL 96 yX8_carryOut cX8_carryOut 2 (some .int) 0 := ⟨mlL_96, im_X8_carryOut, se_X8_carryOut, ini_X8, co_X8_carryOut, nd_X8_carryOut⟩
theorem mk_X8_244 : MLk RX8 244 yX4_takeNext cX4_takeNext 1 (some .boolean) 0 := ⟨mlX8_244, im_X4_takeNext, se_X4_takeNext, ini_X4, co_X4_takeNext, nd_X4_takeNext⟩
theorem nd_X9_carryOut : (yX9_carryOut).cls ≠ "java/lang/invoke/MethodHandle" ∧ (yX9_carryOut).cls ≠ "java/lang/invoke/VarHandle" ∧ (parseMethodDescriptor (yX9_carryOut).desc).map (fun d => d.parameters.length) = some 0 := by decide +kernel
theorem mk_L_99 : MLk RL 99 yX9_carryOut cX9_carryOut 2 (some .int) 0 := ⟨mlL_99, im_X9_carryOut, se_X9_carryOut, ini_X9, co_X9_carryOut, nd_X9_carryOut⟩
theorem mk_X9_223 : MLk RX9 223 yX9_fault cX9_fault 1 (some .int) 0 := ⟨mlX9_223, im_X9_fault, se_X9_fault, ini_X9, co_X9_fault, nd_X9_fault⟩
theorem nd_X9_carry : (yX9_carry).cls ≠ "java/lang/invoke/MethodHandle" ∧ (yX9_carry).cls ≠ "java/lang/invoke/VarHandle" ∧ (parseMethodDescriptor (yX9_carry).desc).map (fun d => d.parameters.length) = some 1 := by decide +kernel
theorem mk_X9_226 : MLk RX9 226 yX9_carry cX9_carry 3 (some .int) 1 := ⟨mlX9_226, im_X9_carry, se_X9_carry, ini_X9, co_X9_carry, nd_X9_carry⟩
theorem nd_X8_undo : (yX8_undo).cls ≠ "java/lang/invoke/MethodHandle" ∧ (yX8_undo).cls ≠ "java/lang/invoke/VarHandle" ∧ (parseMethodDescriptor (yX8_undo).desc).map (fun d => d.parameters.length) = some 0 := by decide +kernel
theorem mk_L_100 : MLk RL 100 yX8_undo cX8_undo 1 (some .int) 0 := ⟨mlL_100, im_X8_undo, se_X8_undo, ini_X8, co_X8_undo, nd_X8_undo⟩
theorem nd_X2_takeBack : (yX2_takeBack).cls ≠ "java/lang/invoke/MethodHandle" ∧ (yX2_takeBack).cls ≠ "java/lang/invoke/VarHandle" ∧ (parseMethodDescriptor (yX2_takeBack).desc).map (fun d => d.parameters.length) = some 1 := by decide +kernel
theorem mk_X8_262 : MLk RX8 262 yX2_takeBack cX2_takeBack 3 (some .boolean) 1 := ⟨mlX8_262, im_X2_takeBack, se_X2_takeBack, ini_X2, co_X2_takeBack, nd_X2_takeBack⟩
theorem nd_X9_undo : (yX9_undo).cls ≠ "java/lang/invoke/MethodHandle" ∧ (yX9_undo).cls ≠ "java/lang/invoke/VarHandle" ∧ (parseMethodDescriptor (yX9_undo).desc).map (fun d => d.parameters.length) = some 0 := by decide +kernel
theorem mk_L_103 : MLk RL 103 yX9_undo cX9_undo 3 (some .int) 0 := ⟨mlL_103, im_X9_undo, se_X9_undo, ini_X9, co_X9_undo, nd_X9_undo⟩
theorem nd_X8_save : (yX8_save).cls ≠ "java/lang/invoke/MethodHandle" ∧ (yX8_save).cls ≠ "java/lang/invoke/VarHandle" ∧ (parseMethodDescriptor (yX8_save).desc).map (fun d => d.parameters.length) = some 1 := by decide +kernel
theorem mk_L_104 : MLk RL 104 yX8_save cX8_save 3 (some .int) 1 := ⟨mlL_104, im_X8_save, se_X8_save, ini_X8, co_X8_save, nd_X8_save⟩
theorem mk_X8_266 : MLk RX8 266 yX3_copyFrom cX3_copyFrom 2 none 1 := ⟨mlX8_266, im_X3_copyFrom, se_X3_copyFrom, ini_X3, co_X3_copyFrom, nd_X3_copyFrom⟩
theorem nd_X9_save : (yX9_save).cls ≠ "java/lang/invoke/MethodHandle" ∧ (yX9_save).cls ≠ "java/lang/invoke/VarHandle" ∧ (parseMethodDescriptor (yX9_save).desc).map (fun d => d.parameters.length) = some 1 := by decide +kernel
theorem mk_L_107 : MLk RL 107 yX9_save cX9_save 3 (some .int) 1 := ⟨mlL_107, im_X9_save, se_X9_save, ini_X9, co_X9_save, nd_X9_save⟩
theorem nd_X8_restore : (yX8_restore).cls ≠ "java/lang/invoke/MethodHandle" ∧ (yX8_restore).cls ≠ "java/lang/invoke/VarHandle" ∧ (parseMethodDescriptor (yX8_restore).desc).map (fun d => d.parameters.length) = some 1 := by decide +kernel
theorem mk_L_108 : MLk RL 108 yX8_restore cX8_restore 3 (some .int) 1 := ⟨mlL_108, im_X8_restore, se_X8_restore, ini_X8, co_X8_restore, nd_X8_restore⟩
theorem nd_X9_restore : (yX9_restore).cls ≠ "java/lang/invoke/MethodHandle" ∧ (yX9_restore).cls ≠ "java/lang/invoke/VarHandle" ∧ (parseMethodDescriptor (yX9_restore).desc).map (fun d => d.parameters.length) = some 1 := by decide +kernel
theorem mk_L_111 : MLk RL 111 yX9_restore cX9_restore 3 (some .int) 1 := ⟨mlL_111, im_X9_restore, se_X9_restore, ini_X9, co_X9_restore, nd_X9_restore⟩
theorem mk_X3_86 : MNk RX3 86 yX8_isReader cX8_isReader 1 (some .boolean) 1 := ⟨⟨_, List.mem_of_getElem? (i := 5) rfl⟩, st_X8_isReader, ini_X8, co_X8_isReader, nd_X8_isReader⟩
theorem mk_X3_90 : MNk RX3 90 yX8_isNote cX8_isNote 1 (some .boolean) 1 := ⟨⟨_, List.mem_of_getElem? (i := 6) rfl⟩, st_X8_isNote, ini_X8, co_X8_isNote, nd_X8_isNote⟩
theorem nd_X8_isIn : (yX8_isIn).cls ≠ "java/lang/invoke/MethodHandle" ∧ (yX8_isIn).cls ≠ "java/lang/invoke/VarHandle" ∧ (parseMethodDescriptor (yX8_isIn).desc).map (fun d => d.parameters.length) = some 2 := by decide +kernel
theorem mk_X7_36 : MNk RX7 36 yX8_isIn cX8_isIn 2 (some .boolean) 2 := ⟨⟨_, List.mem_of_getElem? (i := 7) rfl⟩, st_X8_isIn, ini_X8, co_X8_isIn, nd_X8_isIn⟩
theorem nd_X8_only : (yX8_only).cls ≠ "java/lang/invoke/MethodHandle" ∧ (yX8_only).cls ≠ "java/lang/invoke/VarHandle" ∧ (parseMethodDescriptor (yX8_only).desc).map (fun d => d.parameters.length) = some 1 := by decide +kernel
theorem mk_X7_44 : MNk RX7 44 yX8_only cX8_only 1 (some .int) 1 := ⟨⟨_, List.mem_of_getElem? (i := 8) rfl⟩, st_X8_only, ini_X8, co_X8_only, nd_X8_only⟩
theorem mk_X1_31 : MNk RX1 31 yX8_groupOf cX8_groupOf 2 (some .int) 2 := ⟨⟨_, List.mem_of_getElem? (i := 9) rfl⟩, st_X8_groupOf, ini_X8, co_X8_groupOf, nd_X8_groupOf⟩
theorem mk_X1_27 : MNk RX1 27 yX8_isIn cX8_isIn 2 (some .boolean) 2 := ⟨⟨_, List.mem_of_getElem? (i := 10) rfl⟩, st_X8_isIn, ini_X8, co_X8_isIn, nd_X8_isIn⟩
theorem mk_X1_35 : MNk RX1 35 yX8_only cX8_only 1 (some .int) 1 := ⟨⟨_, List.mem_of_getElem? (i := 11) rfl⟩, st_X8_only, ini_X8, co_X8_only, nd_X8_only⟩
theorem mk_X3_157 : MNk RX3 157 yX8_isIn cX8_isIn 2 (some .boolean) 2 := ⟨⟨_, List.mem_of_getElem? (i := 12) rfl⟩, st_X8_isIn, ini_X8, co_X8_isIn, nd_X8_isIn⟩
theorem mk_X3_145 : MNk RX3 145 yX8_only cX8_only 1 (some .int) 1 := ⟨⟨_, List.mem_of_getElem? (i := 13) rfl⟩, st_X8_only, ini_X8, co_X8_only, nd_X8_only⟩
theorem ki_m1 : Int32.ofInt (-1) = -1 := by decide
theorem ki_0 : Int32.ofInt (0) = 0 := by decide
theorem ki_1 : Int32.ofInt (1) = 1 := by decide
theorem ki_2 : Int32.ofInt (2) = 2 := by decide
theorem ki_3 : Int32.ofInt (3) = 3 := by decide
theorem ki_4 : Int32.ofInt (4) = 4 := by decide
theorem ki_5 : Int32.ofInt (5) = 5 := by decide
theorem kb_m6 : (Int8.ofInt (-6)).toInt32 = -6 := by decide
theorem kb_m5 : (Int8.ofInt (-5)).toInt32 = -5 := by decide
theorem kb_m4 : (Int8.ofInt (-4)).toInt32 = -4 := by decide
theorem kb_m3 : (Int8.ofInt (-3)).toInt32 = -3 := by decide
theorem kb_m2 : (Int8.ofInt (-2)).toInt32 = -2 := by decide
theorem kb_6 : (Int8.ofInt (6)).toInt32 = 6 := by decide
theorem kb_7 : (Int8.ofInt (7)).toInt32 = 7 := by decide
theorem kb_8 : (Int8.ofInt (8)).toInt32 = 8 := by decide
theorem kb_10 : (Int8.ofInt (10)).toInt32 = 10 := by decide
theorem kb_15 : (Int8.ofInt (15)).toInt32 = 15 := by decide
theorem kb_16 : (Int8.ofInt (16)).toInt32 = 16 := by decide
theorem kb_23 : (Int8.ofInt (23)).toInt32 = 23 := by decide
theorem kb_24 : (Int8.ofInt (24)).toInt32 = 24 := by decide
theorem kb_29 : (Int8.ofInt (29)).toInt32 = 29 := by decide
theorem kb_31 : (Int8.ofInt (31)).toInt32 = 31 := by decide
theorem kb_32 : (Int8.ofInt (32)).toInt32 = 32 := by decide
theorem kb_33 : (Int8.ofInt (33)).toInt32 = 33 := by decide
theorem kb_48 : (Int8.ofInt (48)).toInt32 = 48 := by decide
theorem kb_57 : (Int8.ofInt (57)).toInt32 = 57 := by decide
theorem kb_58 : (Int8.ofInt (58)).toInt32 = 58 := by decide
theorem kb_59 : (Int8.ofInt (59)).toInt32 = 59 := by decide
theorem kb_60 : (Int8.ofInt (60)).toInt32 = 60 := by decide
theorem kb_61 : (Int8.ofInt (61)).toInt32 = 61 := by decide
theorem kb_63 : (Int8.ofInt (63)).toInt32 = 63 := by decide
theorem kb_80 : (Int8.ofInt (80)).toInt32 = 80 := by decide
theorem kb_87 : (Int8.ofInt (87)).toInt32 = 87 := by decide
theorem kb_119 : (Int8.ofInt (119)).toInt32 = 119 := by decide
theorem kb_126 : (Int8.ofInt (126)).toInt32 = 126 := by decide
theorem ks_128 : (Int16.ofInt (128)).toInt32 = 128 := by decide
theorem ks_208 : (Int16.ofInt (208)).toInt32 = 208 := by decide
theorem ks_592 : (Int16.ofInt (592)).toInt32 = 592 := by decide
theorem ks_652 : (Int16.ofInt (652)).toInt32 = 652 := by decide
theorem ks_1304 : (Int16.ofInt (1304)).toInt32 = 1304 := by decide
theorem ks_3912 : (Int16.ofInt (3912)).toInt32 = 3912 := by decide
theorem ks_9999 : (Int16.ofInt (9999)).toInt32 = 9999 := by decide
theorem pn_X0 : plainName RX0 = true := by decide +kernel
theorem pn_X1 : plainName RX1 = true := by decide +kernel
theorem pn_X2 : plainName RX2 = true := by decide +kernel
theorem pn_X3 : plainName RX3 = true := by decide +kernel
theorem pn_X4 : plainName RX4 = true := by decide +kernel
theorem pn_X5 : plainName RX5 = true := by decide +kernel
theorem pn_X6 : plainName RX6 = true := by decide +kernel
theorem pn_X7 : plainName RX7 = true := by decide +kernel
theorem pn_X8 : plainName RX8 = true := by decide +kernel
theorem pn_X9 : plainName RX9 = true := by decide +kernel
theorem pn_J6 : plainName RJ6 = true := by decide +kernel
theorem pn_J7 : plainName RJ7 = true := by decide +kernel
