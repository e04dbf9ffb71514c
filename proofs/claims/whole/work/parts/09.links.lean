theorem fl_X7_9 : hv_FL RX7 9 7 0 := ⟨RX7, TX7, 2, rfl, inX7, by decide, tw_33⟩
theorem fl_X7_15 : hv_FL RX7 15 7 1 := ⟨RX7, TX7, 2, rfl, inX7, by decide, tw_34⟩
theorem fp_X7_15 : hv_FP RX7 15 7 1 .int := ⟨RX7, TX7, 2, tyX7, rfl, inX7, by decide, tw_34, tyX7_ok, nmX7, rfl, by decide +kernel⟩
theorem fl_X8_7 : hv_FL RX8 7 8 0 := ⟨RX8, TX8, 5, rfl, inX8, by decide, tw_53⟩
theorem fl_X8_13 : hv_FL RX8 13 8 1 := ⟨RX8, TX8, 5, rfl, inX8, by decide, tw_54⟩
theorem fp_X8_13 : hv_FP RX8 13 8 1 .int := ⟨RX8, TX8, 5, tyX8, rfl, inX8, by decide, tw_54, tyX8_ok, nmX8, rfl, by decide +kernel⟩
theorem fl_X8_17 : hv_FL RX8 17 8 2 := ⟨RX8, TX8, 5, rfl, inX8, by decide, tw_55⟩
theorem fp_X8_17 : hv_FP RX8 17 8 2 .int := ⟨RX8, TX8, 5, tyX8, rfl, inX8, by decide, tw_55, tyX8_ok, nmX8, rfl, by decide +kernel⟩
theorem fl_X8_23 : hv_FL RX8 23 8 3 := ⟨RX8, TX8, 5, rfl, inX8, by decide, tw_56⟩
theorem fp_X8_23 : hv_FP RX8 23 8 3 .int := ⟨RX8, TX8, 5, tyX8, rfl, inX8, by decide, tw_56, tyX8_ok, nmX8, rfl, by decide +kernel⟩
theorem fl_X8_20 : hv_FL RX8 20 8 4 := ⟨RX8, TX8, 5, rfl, inX8, by decide, tw_57⟩
theorem fp_X8_20 : hv_FP RX8 20 8 4 .int := ⟨RX8, TX8, 5, tyX8, rfl, inX8, by decide, tw_57, tyX8_ok, nmX8, rfl, by decide +kernel⟩
theorem fl_X4_35 : hv_FL RX4 35 4 0 := ⟨RX4, TX4, 14, rfl, inX4, by decide, tw_69⟩
theorem fl_X4_9 : hv_FL RX4 9 4 1 := ⟨RX4, TX4, 14, rfl, inX4, by decide, tw_70⟩
theorem fl_X4_15 : hv_FL RX4 15 4 2 := ⟨RX4, TX4, 14, rfl, inX4, by decide, tw_71⟩
theorem fl_X4_18 : hv_FL RX4 18 4 3 := ⟨RX4, TX4, 14, rfl, inX4, by decide, tw_72⟩
theorem fl_X4_21 : hv_FL RX4 21 4 4 := ⟨RX4, TX4, 14, rfl, inX4, by decide, tw_73⟩
theorem fl_X4_24 : hv_FL RX4 24 4 5 := ⟨RX4, TX4, 14, rfl, inX4, by decide, tw_74⟩
theorem fl_X4_27 : hv_FL RX4 27 4 6 := ⟨RX4, TX4, 14, rfl, inX4, by decide, tw_75⟩
theorem fl_X4_43 : hv_FL RX4 43 4 7 := ⟨RX4, TX4, 14, rfl, inX4, by decide, tw_76⟩
theorem fp_X4_43 : hv_FP RX4 43 4 7 .int := ⟨RX4, TX4, 14, tyX4, rfl, inX4, by decide, tw_76, tyX4_ok, nmX4, rfl, by decide +kernel⟩
theorem fl_X4_46 : hv_FL RX4 46 4 8 := ⟨RX4, TX4, 14, rfl, inX4, by decide, tw_77⟩
theorem fp_X4_46 : hv_FP RX4 46 4 8 .int := ⟨RX4, TX4, 14, tyX4, rfl, inX4, by decide, tw_77, tyX4_ok, nmX4, rfl, by decide +kernel⟩
theorem fl_X4_49 : hv_FL RX4 49 4 9 := ⟨RX4, TX4, 14, rfl, inX4, by decide, tw_78⟩
theorem fp_X4_49 : hv_FP RX4 49 4 9 .int := ⟨RX4, TX4, 14, tyX4, rfl, inX4, by decide, tw_78, tyX4_ok, nmX4, rfl, by decide +kernel⟩
theorem fl_X4_52 : hv_FL RX4 52 4 10 := ⟨RX4, TX4, 14, rfl, inX4, by decide, tw_79⟩
theorem fp_X4_52 : hv_FP RX4 52 4 10 .int := ⟨RX4, TX4, 14, tyX4, rfl, inX4, by decide, tw_79, tyX4_ok, nmX4, rfl, by decide +kernel⟩
theorem fl_X4_55 : hv_FL RX4 55 4 11 := ⟨RX4, TX4, 14, rfl, inX4, by decide, tw_80⟩
theorem fp_X4_55 : hv_FP RX4 55 4 11 .int := ⟨RX4, TX4, 14, tyX4, rfl, inX4, by decide, tw_80, tyX4_ok, nmX4, rfl, by decide +kernel⟩
theorem fl_X4_39 : hv_FL RX4 39 4 12 := ⟨RX4, TX4, 14, rfl, inX4, by decide, tw_81⟩
theorem fp_X4_39 : hv_FP RX4 39 4 12 .int := ⟨RX4, TX4, 14, tyX4, rfl, inX4, by decide, tw_81, tyX4_ok, nmX4, rfl, by decide +kernel⟩
theorem fl_X4_131 : hv_FL RX4 131 4 13 := ⟨RX4, TX4, 14, rfl, inX4, by decide, tw_82⟩
theorem fp_X4_131 : hv_FP RX4 131 4 13 .int := ⟨RX4, TX4, 14, tyX4, rfl, inX4, by decide, tw_82, tyX4_ok, nmX4, rfl, by decide +kernel⟩
theorem fl_X3_9 : hv_FL RX3 9 3 0 := ⟨RX3, TX3, 3, rfl, inX3, by decide, tw_118⟩
theorem fl_X3_15 : hv_FL RX3 15 3 1 := ⟨RX3, TX3, 3, rfl, inX3, by decide, tw_119⟩
theorem fl_X3_18 : hv_FL RX3 18 3 2 := ⟨RX3, TX3, 3, rfl, inX3, by decide, tw_120⟩
theorem fp_X3_18 : hv_FP RX3 18 3 2 .int := ⟨RX3, TX3, 3, tyX3, rfl, inX3, by decide, tw_120, tyX3_ok, nmX3, rfl, by decide +kernel⟩
theorem fl_X6_9 : hv_FL RX6 9 6 0 := ⟨RX6, TX6, 6, rfl, inX6, by decide, tw_134⟩
theorem fl_X6_15 : hv_FL RX6 15 6 1 := ⟨RX6, TX6, 6, rfl, inX6, by decide, tw_135⟩
theorem fl_X6_18 : hv_FL RX6 18 6 2 := ⟨RX6, TX6, 6, rfl, inX6, by decide, tw_136⟩
theorem fl_X6_21 : hv_FL RX6 21 6 3 := ⟨RX6, TX6, 6, rfl, inX6, by decide, tw_137⟩
theorem fl_X6_24 : hv_FL RX6 24 6 4 := ⟨RX6, TX6, 6, rfl, inX6, by decide, tw_138⟩
theorem fl_X6_27 : hv_FL RX6 27 6 5 := ⟨RX6, TX6, 6, rfl, inX6, by decide, tw_139⟩
theorem fp_X6_27 : hv_FP RX6 27 6 5 .int := ⟨RX6, TX6, 6, tyX6, rfl, inX6, by decide, tw_139, tyX6_ok, nmX6, rfl, by decide +kernel⟩
theorem fl_X0_9 : hv_FL RX0 9 0 0 := ⟨RX0, TX0, 2, rfl, inX0, by decide, tw_159⟩
theorem fl_X0_15 : hv_FL RX0 15 0 1 := ⟨RX0, TX0, 2, rfl, inX0, by decide, tw_160⟩
theorem fl_X1_11 : hv_FL RX1 11 1 0 := ⟨RX1, TX1, 11, rfl, inX1, by decide, tw_178⟩
theorem fl_X1_15 : hv_FL RX1 15 1 1 := ⟨RX1, TX1, 11, rfl, inX1, by decide, tw_179⟩
theorem fl_X1_18 : hv_FL RX1 18 1 2 := ⟨RX1, TX1, 11, rfl, inX1, by decide, tw_180⟩
theorem fl_X1_21 : hv_FL RX1 21 1 3 := ⟨RX1, TX1, 11, rfl, inX1, by decide, tw_181⟩
theorem fl_X1_24 : hv_FL RX1 24 1 4 := ⟨RX1, TX1, 11, rfl, inX1, by decide, tw_182⟩
theorem fl_X1_27 : hv_FL RX1 27 1 5 := ⟨RX1, TX1, 11, rfl, inX1, by decide, tw_183⟩
theorem fl_X1_30 : hv_FL RX1 30 1 6 := ⟨RX1, TX1, 11, rfl, inX1, by decide, tw_184⟩
theorem fl_X1_33 : hv_FL RX1 33 1 7 := ⟨RX1, TX1, 11, rfl, inX1, by decide, tw_185⟩
theorem fl_X1_36 : hv_FL RX1 36 1 8 := ⟨RX1, TX1, 11, rfl, inX1, by decide, tw_186⟩
theorem fl_X1_39 : hv_FL RX1 39 1 9 := ⟨RX1, TX1, 11, rfl, inX1, by decide, tw_187⟩
theorem fp_X1_39 : hv_FP RX1 39 1 9 .int := ⟨RX1, TX1, 11, tyX1, rfl, inX1, by decide, tw_187, tyX1_ok, nmX1, rfl, by decide +kernel⟩
theorem fl_X1_43 : hv_FL RX1 43 1 10 := ⟨RX1, TX1, 11, rfl, inX1, by decide, tw_188⟩
theorem fp_X1_43 : hv_FP RX1 43 1 10 .int := ⟨RX1, TX1, 11, tyX1, rfl, inX1, by decide, tw_188, tyX1_ok, nmX1, rfl, by decide +kernel⟩
theorem fl_X2_34 : hv_FL RX2 34 2 0 := ⟨RX2, TX2, 10, rfl, inX2, by decide, tw_212⟩
theorem fl_X2_12 : hv_FL RX2 12 2 1 := ⟨RX2, TX2, 10, rfl, inX2, by decide, tw_213⟩
theorem fl_X2_18 : hv_FL RX2 18 2 2 := ⟨RX2, TX2, 10, rfl, inX2, by decide, tw_214⟩
theorem fl_X2_22 : hv_FL RX2 22 2 3 := ⟨RX2, TX2, 10, rfl, inX2, by decide, tw_215⟩
theorem fl_X2_25 : hv_FL RX2 25 2 4 := ⟨RX2, TX2, 10, rfl, inX2, by decide, tw_216⟩
theorem fl_X2_28 : hv_FL RX2 28 2 5 := ⟨RX2, TX2, 10, rfl, inX2, by decide, tw_217⟩
theorem fl_X2_31 : hv_FL RX2 31 2 6 := ⟨RX2, TX2, 10, rfl, inX2, by decide, tw_218⟩
theorem fl_X2_58 : hv_FL RX2 58 2 7 := ⟨RX2, TX2, 10, rfl, inX2, by decide, tw_219⟩
theorem fp_X2_58 : hv_FP RX2 58 2 7 .int := ⟨RX2, TX2, 10, tyX2, rfl, inX2, by decide, tw_219, tyX2_ok, nmX2, rfl, by decide +kernel⟩
theorem fl_X2_74 : hv_FL RX2 74 2 8 := ⟨RX2, TX2, 10, rfl, inX2, by decide, tw_220⟩
theorem fp_X2_74 : hv_FP RX2 74 2 8 .int := ⟨RX2, TX2, 10, tyX2, rfl, inX2, by decide, tw_220, tyX2_ok, nmX2, rfl, by decide +kernel⟩
theorem fl_X2_94 : hv_FL RX2 94 2 9 := ⟨RX2, TX2, 10, rfl, inX2, by decide, tw_221⟩
theorem fp_X2_94 : hv_FP RX2 94 2 9 .int := ⟨RX2, TX2, 10, tyX2, rfl, inX2, by decide, tw_221, tyX2_ok, nmX2, rfl, by decide +kernel⟩
theorem fl_X9_9 : hv_FL RX9 9 9 0 := ⟨RX9, TX9, 4, rfl, inX9, by decide, tw_249⟩
theorem fl_X9_15 : hv_FL RX9 15 9 1 := ⟨RX9, TX9, 4, rfl, inX9, by decide, tw_250⟩
theorem fl_X9_18 : hv_FL RX9 18 9 2 := ⟨RX9, TX9, 4, rfl, inX9, by decide, tw_251⟩
theorem fp_X9_18 : hv_FP RX9 18 9 2 .int := ⟨RX9, TX9, 4, tyX9, rfl, inX9, by decide, tw_251, tyX9_ok, nmX9, rfl, by decide +kernel⟩
theorem fl_X9_22 : hv_FL RX9 22 9 3 := ⟨RX9, TX9, 4, rfl, inX9, by decide, tw_252⟩
theorem fp_X9_22 : hv_FP RX9 22 9 3 .int := ⟨RX9, TX9, 4, tyX9, rfl, inX9, by decide, tw_252, tyX9_ok, nmX9, rfl, by decide +kernel⟩
theorem fl_X5_21 : hv_FL RX5 21 5 0 := ⟨RX5, TX5, 9, rfl, inX5, by decide, tw_268⟩
theorem fl_X5_9 : hv_FL RX5 9 5 1 := ⟨RX5, TX5, 9, rfl, inX5, by decide, tw_269⟩
theorem fl_X5_15 : hv_FL RX5 15 5 2 := ⟨RX5, TX5, 9, rfl, inX5, by decide, tw_270⟩
theorem fl_X5_18 : hv_FL RX5 18 5 3 := ⟨RX5, TX5, 9, rfl, inX5, by decide, tw_271⟩
theorem fl_X5_38 : hv_FL RX5 38 5 4 := ⟨RX5, TX5, 9, rfl, inX5, by decide, tw_272⟩
theorem fp_X5_38 : hv_FP RX5 38 5 4 .int := ⟨RX5, TX5, 9, tyX5, rfl, inX5, by decide, tw_272, tyX5_ok, nmX5, rfl, by decide +kernel⟩
theorem fl_X5_25 : hv_FL RX5 25 5 5 := ⟨RX5, TX5, 9, rfl, inX5, by decide, tw_273⟩
theorem fp_X5_25 : hv_FP RX5 25 5 5 .int := ⟨RX5, TX5, 9, tyX5, rfl, inX5, by decide, tw_273, tyX5_ok, nmX5, rfl, by decide +kernel⟩
theorem fl_X5_29 : hv_FL RX5 29 5 6 := ⟨RX5, TX5, 9, rfl, inX5, by decide, tw_274⟩
theorem fp_X5_29 : hv_FP RX5 29 5 6 .int := ⟨RX5, TX5, 9, tyX5, rfl, inX5, by decide, tw_274, tyX5_ok, nmX5, rfl, by decide +kernel⟩
theorem fl_X5_32 : hv_FL RX5 32 5 7 := ⟨RX5, TX5, 9, rfl, inX5, by decide, tw_275⟩
theorem fp_X5_32 : hv_FP RX5 32 5 7 .int := ⟨RX5, TX5, 9, tyX5, rfl, inX5, by decide, tw_275, tyX5_ok, nmX5, rfl, by decide +kernel⟩
theorem fl_X5_35 : hv_FL RX5 35 5 8 := ⟨RX5, TX5, 9, rfl, inX5, by decide, tw_276⟩
theorem fp_X5_35 : hv_FP RX5 35 5 8 .int := ⟨RX5, TX5, 9, tyX5, rfl, inX5, by decide, tw_276, tyX5_ok, nmX5, rfl, by decide +kernel⟩
theorem fl_X10_10 : hv_FL RX10 10 10 0 := ⟨RX10, TX10, 14, rfl, inX10, by decide, tw_296⟩
theorem fl_X10_21 : hv_FL RX10 21 10 1 := ⟨RX10, TX10, 14, rfl, inX10, by decide, tw_297⟩
theorem fl_X10_28 : hv_FL RX10 28 10 2 := ⟨RX10, TX10, 14, rfl, inX10, by decide, tw_298⟩
theorem fl_X10_35 : hv_FL RX10 35 10 3 := ⟨RX10, TX10, 14, rfl, inX10, by decide, tw_299⟩
theorem fl_X10_42 : hv_FL RX10 42 10 4 := ⟨RX10, TX10, 14, rfl, inX10, by decide, tw_300⟩
theorem fl_X10_46 : hv_FL RX10 46 10 5 := ⟨RX10, TX10, 14, rfl, inX10, by decide, tw_301⟩
theorem fl_X10_54 : hv_FL RX10 54 10 6 := ⟨RX10, TX10, 14, rfl, inX10, by decide, tw_302⟩
theorem fl_X10_58 : hv_FL RX10 58 10 7 := ⟨RX10, TX10, 14, rfl, inX10, by decide, tw_303⟩
theorem fl_X10_64 : hv_FL RX10 64 10 8 := ⟨RX10, TX10, 14, rfl, inX10, by decide, tw_304⟩
theorem fl_X10_73 : hv_FL RX10 73 10 9 := ⟨RX10, TX10, 14, rfl, inX10, by decide, tw_305⟩
theorem fl_X10_97 : hv_FL RX10 97 10 10 := ⟨RX10, TX10, 14, rfl, inX10, by decide, tw_306⟩
theorem fp_X10_97 : hv_FP RX10 97 10 10 .int := ⟨RX10, TX10, 14, tyX10, rfl, inX10, by decide, tw_306, tyX10_ok, nmX10, rfl, by decide +kernel⟩
theorem fl_X10_104 : hv_FL RX10 104 10 11 := ⟨RX10, TX10, 14, rfl, inX10, by decide, tw_307⟩
theorem fp_X10_104 : hv_FP RX10 104 10 11 .int := ⟨RX10, TX10, 14, tyX10, rfl, inX10, by decide, tw_307, tyX10_ok, nmX10, rfl, by decide +kernel⟩
theorem fl_X10_110 : hv_FL RX10 110 10 12 := ⟨RX10, TX10, 14, rfl, inX10, by decide, tw_308⟩
theorem fp_X10_110 : hv_FP RX10 110 10 12 .int := ⟨RX10, TX10, 14, tyX10, rfl, inX10, by decide, tw_308, tyX10_ok, nmX10, rfl, by decide +kernel⟩
theorem fl_X10_116 : hv_FL RX10 116 10 13 := ⟨RX10, TX10, 14, rfl, inX10, by decide, tw_309⟩
theorem fp_X10_116 : hv_FP RX10 116 10 13 .int := ⟨RX10, TX10, 14, tyX10, rfl, inX10, by decide, tw_309, tyX10_ok, nmX10, rfl, by decide +kernel⟩
theorem fl_X11_9 : hv_FL RX11 9 11 0 := ⟨RX11, TX11, 32, rfl, inX11, by decide, tw_1128⟩
theorem fl_X11_13 : hv_FL RX11 13 11 1 := ⟨RX11, TX11, 32, rfl, inX11, by decide, tw_1129⟩
theorem fl_X11_16 : hv_FL RX11 16 11 2 := ⟨RX11, TX11, 32, rfl, inX11, by decide, tw_1130⟩
theorem fl_X11_75 : hv_FL RX11 75 11 3 := ⟨RX11, TX11, 32, rfl, inX11, by decide, tw_1131⟩
theorem fp_X11_75 : hv_FP RX11 75 11 3 .int := ⟨RX11, TX11, 32, tyX11, rfl, inX11, by decide, tw_1131, tyX11_ok, nmX11, rfl, by decide +kernel⟩
theorem fl_X11_109 : hv_FL RX11 109 11 4 := ⟨RX11, TX11, 32, rfl, inX11, by decide, tw_1132⟩
theorem fp_X11_109 : hv_FP RX11 109 11 4 .int := ⟨RX11, TX11, 32, tyX11, rfl, inX11, by decide, tw_1132, tyX11_ok, nmX11, rfl, by decide +kernel⟩
theorem fl_X11_19 : hv_FL RX11 19 11 5 := ⟨RX11, TX11, 32, rfl, inX11, by decide, tw_1133⟩
theorem fp_X11_19 : hv_FP RX11 19 11 5 .int := ⟨RX11, TX11, 32, tyX11, rfl, inX11, by decide, tw_1133, tyX11_ok, nmX11, rfl, by decide +kernel⟩
theorem fl_X11_82 : hv_FL RX11 82 11 6 := ⟨RX11, TX11, 32, rfl, inX11, by decide, tw_1134⟩
theorem fp_X11_82 : hv_FP RX11 82 11 6 .int := ⟨RX11, TX11, 32, tyX11, rfl, inX11, by decide, tw_1134, tyX11_ok, nmX11, rfl, by decide +kernel⟩
theorem fl_X11_89 : hv_FL RX11 89 11 7 := ⟨RX11, TX11, 32, rfl, inX11, by decide, tw_1135⟩
theorem fp_X11_89 : hv_FP RX11 89 11 7 .int := ⟨RX11, TX11, 32, tyX11, rfl, inX11, by decide, tw_1135, tyX11_ok, nmX11, rfl, by decide +kernel⟩
theorem fl_X11_95 : hv_FL RX11 95 11 8 := ⟨RX11, TX11, 32, rfl, inX11, by decide, tw_1136⟩
theorem fp_X11_95 : hv_FP RX11 95 11 8 .int := ⟨RX11, TX11, 32, tyX11, rfl, inX11, by decide, tw_1136, tyX11_ok, nmX11, rfl, by decide +kernel⟩
theorem fl_X11_92 : hv_FL RX11 92 11 9 := ⟨RX11, TX11, 32, rfl, inX11, by decide, tw_1137⟩
theorem fp_X11_92 : hv_FP RX11 92 11 9 .int := ⟨RX11, TX11, 32, tyX11, rfl, inX11, by decide, tw_1137, tyX11_ok, nmX11, rfl, by decide +kernel⟩
theorem fl_X11_105 : hv_FL RX11 105 11 10 := ⟨RX11, TX11, 32, rfl, inX11, by decide, tw_1138⟩
theorem fp_X11_105 : hv_FP RX11 105 11 10 .boolean := ⟨RX11, TX11, 32, tyX11, rfl, inX11, by decide, tw_1138, tyX11_ok, nmX11, rfl, by decide +kernel⟩
theorem fl_X11_23 : hv_FL RX11 23 11 11 := ⟨RX11, TX11, 32, rfl, inX11, by decide, tw_1139⟩
theorem fl_X11_26 : hv_FL RX11 26 11 12 := ⟨RX11, TX11, 32, rfl, inX11, by decide, tw_1140⟩
theorem fl_X11_189 : hv_FL RX11 189 11 13 := ⟨RX11, TX11, 32, rfl, inX11, by decide, tw_1141⟩
theorem fp_X11_189 : hv_FP RX11 189 11 13 .int := ⟨RX11, TX11, 32, tyX11, rfl, inX11, by decide, tw_1141, tyX11_ok, nmX11, rfl, by decide +kernel⟩
theorem fl_X11_29 : hv_FL RX11 29 11 14 := ⟨RX11, TX11, 32, rfl, inX11, by decide, tw_1142⟩
theorem fl_X11_32 : hv_FL RX11 32 11 15 := ⟨RX11, TX11, 32, rfl, inX11, by decide, tw_1143⟩
theorem fl_X11_35 : hv_FL RX11 35 11 16 := ⟨RX11, TX11, 32, rfl, inX11, by decide, tw_1144⟩
theorem fl_X11_38 : hv_FL RX11 38 11 17 := ⟨RX11, TX11, 32, rfl, inX11, by decide, tw_1145⟩
theorem fl_X11_192 : hv_FL RX11 192 11 18 := ⟨RX11, TX11, 32, rfl, inX11, by decide, tw_1146⟩
theorem fp_X11_192 : hv_FP RX11 192 11 18 .int := ⟨RX11, TX11, 32, tyX11, rfl, inX11, by decide, tw_1146, tyX11_ok, nmX11, rfl, by decide +kernel⟩
theorem fl_X11_42 : hv_FL RX11 42 11 19 := ⟨RX11, TX11, 32, rfl, inX11, by decide, tw_1147⟩
theorem fl_X11_45 : hv_FL RX11 45 11 20 := ⟨RX11, TX11, 32, rfl, inX11, by decide, tw_1148⟩
theorem fl_X11_186 : hv_FL RX11 186 11 21 := ⟨RX11, TX11, 32, rfl, inX11, by decide, tw_1149⟩
theorem fp_X11_186 : hv_FP RX11 186 11 21 .int := ⟨RX11, TX11, 32, tyX11, rfl, inX11, by decide, tw_1149, tyX11_ok, nmX11, rfl, by decide +kernel⟩
theorem fl_X11_198 : hv_FL RX11 198 11 22 := ⟨RX11, TX11, 32, rfl, inX11, by decide, tw_1150⟩
theorem fp_X11_198 : hv_FP RX11 198 11 22 .int := ⟨RX11, TX11, 32, tyX11, rfl, inX11, by decide, tw_1150, tyX11_ok, nmX11, rfl, by decide +kernel⟩
theorem fl_X11_48 : hv_FL RX11 48 11 23 := ⟨RX11, TX11, 32, rfl, inX11, by decide, tw_1151⟩
theorem fl_X11_51 : hv_FL RX11 51 11 24 := ⟨RX11, TX11, 32, rfl, inX11, by decide, tw_1152⟩
theorem fl_X11_54 : hv_FL RX11 54 11 25 := ⟨RX11, TX11, 32, rfl, inX11, by decide, tw_1153⟩
theorem fl_X11_57 : hv_FL RX11 57 11 26 := ⟨RX11, TX11, 32, rfl, inX11, by decide, tw_1154⟩
theorem fl_X11_60 : hv_FL RX11 60 11 27 := ⟨RX11, TX11, 32, rfl, inX11, by decide, tw_1155⟩
theorem fl_X11_63 : hv_FL RX11 63 11 28 := ⟨RX11, TX11, 32, rfl, inX11, by decide, tw_1156⟩
theorem fl_X11_66 : hv_FL RX11 66 11 29 := ⟨RX11, TX11, 32, rfl, inX11, by decide, tw_1157⟩
theorem fl_X11_69 : hv_FL RX11 69 11 30 := ⟨RX11, TX11, 32, rfl, inX11, by decide, tw_1158⟩
theorem fl_X11_72 : hv_FL RX11 72 11 31 := ⟨RX11, TX11, 32, rfl, inX11, by decide, tw_1159⟩
theorem yv_X0_sizeOf : hv_YV yX0_sizeOf cX0_sizeOf 2 (some FieldType.int) 1 := ⟨tw_618, tw_616, tw_617, tw_7, by decide +kernel, by decide⟩
theorem yv_X0_jobAt : hv_YV yX0_jobAt cX0_jobAt 3 (some FieldType.int) 2 := ⟨tw_614, tw_612, tw_613, tw_7, by decide +kernel, by decide⟩
theorem yv_X0_timesOf : hv_YV yX0_timesOf cX0_timesOf 5 (some FieldType.int) 2 := ⟨tw_853, tw_851, tw_852, tw_7, by decide +kernel, by decide⟩
theorem yv_X0_excess : hv_YV yX0_excess cX0_excess 7 (some FieldType.int) 2 := ⟨tw_1002, tw_1000, tw_1001, tw_7, by decide +kernel, by decide⟩
theorem yv_X0_make : hv_YV yX0_make cX0_make 6 (none) 5 := ⟨tw_639, tw_637, tw_638, tw_7, by decide +kernel, by decide⟩
theorem yv_X0_copy : hv_YV yX0_copy cX0_copy 5 (none) 3 := ⟨tw_656, tw_654, tw_655, tw_7, by decide +kernel, by decide⟩
theorem yv_X0_copyWith : hv_YV yX0_copyWith cX0_copyWith 5 (none) 3 := ⟨tw_643, tw_642, pw_17, tw_7, by decide +kernel, by decide⟩
theorem yv_X0_mix : hv_YV yX0_mix cX0_mix 7 (none) 3 := ⟨tw_652, tw_651, pw_19, tw_7, by decide +kernel, by decide⟩
theorem yv_X0_append : hv_YV yX0_append cX0_append 4 (none) 2 := ⟨tw_648, tw_647, pw_18, tw_7, by decide +kernel, by decide⟩
theorem yv_X0_turnAt : hv_YV yX0_turnAt cX0_turnAt 3 (some FieldType.int) 2 := ⟨tw_623, tw_622, pw_16, tw_7, by decide +kernel, by decide⟩
theorem yv_X1_cells : hv_YV yX1_cells cX1_cells 1 (some FieldType.int) 0 := ⟨tw_664, tw_662, tw_663, tw_9, by decide +kernel, by decide⟩
theorem yv_X1_rows : hv_YV yX1_rows cX1_rows 1 (some FieldType.int) 0 := ⟨tw_669, tw_667, tw_668, tw_9, by decide +kernel, by decide⟩
theorem yv_X1_cut : hv_YV yX1_cut cX1_cut 3 (none) 2 := ⟨tw_557, tw_555, tw_556, tw_9, by decide +kernel, by decide⟩
theorem yv_X1_row : hv_YV yX1_row cX1_row 3 (some FieldType.int) 2 := ⟨tw_726, tw_724, tw_725, tw_9, by decide +kernel, by decide⟩
theorem yv_X1_heap : hv_YV yX1_heap cX1_heap 6 (some FieldType.int) 2 := ⟨tw_673, tw_671, tw_672, tw_9, by decide +kernel, by decide⟩
theorem yv_X1_tree : hv_YV yX1_tree cX1_tree 8 (some FieldType.int) 6 := ⟨tw_741, tw_739, tw_740, tw_9, by decide +kernel, by decide⟩
theorem yv_X1_turnOf : hv_YV yX1_turnOf cX1_turnOf 2 (some FieldType.int) 1 := ⟨tw_704, tw_702, tw_703, tw_9, by decide +kernel, by decide⟩
theorem yv_X1_rankOf : hv_YV yX1_rankOf cX1_rankOf 2 (some FieldType.int) 1 := ⟨tw_718, tw_716, tw_717, tw_9, by decide +kernel, by decide⟩
theorem yv_X1_headOf : hv_YV yX1_headOf cX1_headOf 2 (some FieldType.int) 1 := ⟨tw_733, tw_731, tw_732, tw_9, by decide +kernel, by decide⟩
theorem yv_X1_singlesOf : hv_YV yX1_singlesOf cX1_singlesOf 2 (some FieldType.int) 1 := ⟨tw_737, tw_735, tw_736, tw_9, by decide +kernel, by decide⟩
theorem yv_X1_belowOf : hv_YV yX1_belowOf cX1_belowOf 2 (some FieldType.int) 1 := ⟨tw_708, tw_706, tw_707, tw_9, by decide +kernel, by decide⟩
theorem yv_X1_holdsOf : hv_YV yX1_holdsOf cX1_holdsOf 2 (some FieldType.int) 1 := ⟨tw_681, tw_679, tw_680, tw_9, by decide +kernel, by decide⟩
theorem yv_X1_deepOf : hv_YV yX1_deepOf cX1_deepOf 2 (some FieldType.int) 1 := ⟨tw_685, tw_683, tw_684, tw_9, by decide +kernel, by decide⟩
theorem yv_X1_firstOf : hv_YV yX1_firstOf cX1_firstOf 2 (some FieldType.int) 1 := ⟨tw_677, tw_675, tw_676, tw_9, by decide +kernel, by decide⟩
theorem yv_X1_restOf : hv_YV yX1_restOf cX1_restOf 2 (some FieldType.int) 1 := ⟨tw_692, tw_690, tw_691, tw_9, by decide +kernel, by decide⟩
theorem yv_X1_lengthOf : hv_YV yX1_lengthOf cX1_lengthOf 4 (some FieldType.int) 1 := ⟨tw_869, tw_867, tw_868, tw_9, by decide +kernel, by decide⟩
theorem yv_X2_cells : hv_YV yX2_cells cX2_cells 1 (some (FieldType.object "HeapVersions$Cells")) 0 := ⟨tw_885, tw_883, tw_884, tw_8, by decide +kernel, by decide⟩
theorem yv_X2_heapOf : hv_YV yX2_heapOf cX2_heapOf 2 (some FieldType.int) 1 := ⟨tw_696, tw_694, tw_695, tw_8, by decide +kernel, by decide⟩
theorem yv_X2_treesOf : hv_YV yX2_treesOf cX2_treesOf 2 (some FieldType.int) 1 := ⟨tw_865, tw_863, tw_864, tw_8, by decide +kernel, by decide⟩
theorem yv_X2_treeOf : hv_YV yX2_treeOf cX2_treeOf 5 (some FieldType.int) 2 := ⟨tw_881, tw_879, tw_880, tw_8, by decide +kernel, by decide⟩
theorem yv_X2_linksOf : hv_YV yX2_linksOf cX2_linksOf 2 (some FieldType.int) 1 := ⟨tw_960, tw_958, tw_959, tw_8, by decide +kernel, by decide⟩
theorem yv_X2_linksOfAll : hv_YV yX2_linksOfAll cX2_linksOfAll 3 (some FieldType.int) 0 := ⟨tw_968, tw_966, tw_967, tw_8, by decide +kernel, by decide⟩
theorem yv_X2_grow : hv_YV yX2_grow cX2_grow 6 (none) 4 := ⟨tw_660, tw_658, tw_659, tw_8, by decide +kernel, by decide⟩
theorem yv_X2_cut : hv_YV yX2_cut cX2_cut 2 (none) 1 := ⟨tw_552, tw_550, tw_551, tw_8, by decide +kernel, by decide⟩
theorem yv_X2_mostToEmpty : hv_YV yX2_mostToEmpty cX2_mostToEmpty 2 (some FieldType.int) 1 := ⟨tw_993, tw_991, tw_992, tw_8, by decide +kernel, by decide⟩
theorem yv_X2_linksToEmpty : hv_YV yX2_linksToEmpty cX2_linksToEmpty 7 (some FieldType.int) 1 := ⟨tw_985, tw_983, tw_984, tw_8, by decide +kernel, by decide⟩
theorem yv_X2_join : hv_YV yX2_join cX2_join 3 (some FieldType.int) 2 := ⟨tw_700, tw_699, pw_20, tw_8, by decide +kernel, by decide⟩
theorem yv_X2_take : hv_YV yX2_take cX2_take 7 (some FieldType.int) 1 := ⟨tw_753, tw_752, pw_25, tw_8, by decide +kernel, by decide⟩
theorem yv_X2_leastOf : hv_YV yX2_leastOf cX2_leastOf 5 (some FieldType.int) 1 := ⟨tw_757, tw_756, pw_26, tw_8, by decide +kernel, by decide⟩
theorem yv_X2_turned : hv_YV yX2_turned cX2_turned 5 (some FieldType.int) 1 := ⟨tw_761, tw_760, pw_27, tw_8, by decide +kernel, by decide⟩
theorem yv_X2_allBut : hv_YV yX2_allBut cX2_allBut 7 (some FieldType.int) 2 := ⟨tw_765, tw_764, pw_28, tw_8, by decide +kernel, by decide⟩
theorem yv_X2_putInto : hv_YV yX2_putInto cX2_putInto 7 (some FieldType.int) 2 := ⟨tw_712, tw_711, pw_21, tw_8, by decide +kernel, by decide⟩
theorem yv_X2_linkBeside : hv_YV yX2_linkBeside cX2_linkBeside 9 (some FieldType.int) 2 := ⟨tw_745, tw_744, pw_23, tw_8, by decide +kernel, by decide⟩
theorem yv_X2_link : hv_YV yX2_link cX2_link 9 (some FieldType.int) 2 := ⟨tw_722, tw_721, pw_22, tw_8, by decide +kernel, by decide⟩
theorem yv_X2_carry : hv_YV yX2_carry cX2_carry 6 (some FieldType.int) 2 := ⟨tw_749, tw_748, pw_24, tw_8, by decide +kernel, by decide⟩
theorem yv_X2_merge : hv_YV yX2_merge cX2_merge 10 (some FieldType.int) 2 := ⟨tw_769, tw_768, pw_29, tw_8, by decide +kernel, by decide⟩
theorem yv_X3_known : hv_YV yX3_known cX3_known 1 (some FieldType.int) 0 := ⟨tw_535, tw_533, tw_534, tw_5, by decide +kernel, by decide⟩
theorem yv_X3_has : hv_YV yX3_has cX3_has 2 (some FieldType.boolean) 1 := ⟨tw_827, tw_825, tw_826, tw_5, by decide +kernel, by decide⟩
theorem yv_X3_add : hv_YV yX3_add cX3_add 3 (some FieldType.int) 2 := ⟨tw_609, tw_607, tw_608, tw_5, by decide +kernel, by decide⟩
theorem yv_X3_cut : hv_YV yX3_cut cX3_cut 2 (none) 1 := ⟨tw_548, tw_546, tw_547, tw_5, by decide +kernel, by decide⟩
theorem yv_X3_keyOf : hv_YV yX3_keyOf cX3_keyOf 2 (some FieldType.int) 1 := ⟨tw_634, tw_632, tw_633, tw_5, by decide +kernel, by decide⟩
theorem yv_X3_timeOf : hv_YV yX3_timeOf cX3_timeOf 2 (some FieldType.int) 1 := ⟨tw_832, tw_830, tw_831, tw_5, by decide +kernel, by decide⟩
theorem yv_X3_turnOf : hv_YV yX3_turnOf cX3_turnOf 2 (some FieldType.int) 1 := ⟨tw_630, tw_628, tw_629, tw_5, by decide +kernel, by decide⟩
theorem ys_X3_jobOfTurn : hv_YS yX3_jobOfTurn cX3_jobOfTurn 1 (some FieldType.int) 1 := ⟨tw_626, tw_625, tw_5, by decide +kernel, by decide⟩
theorem yv_X4_lawTold : hv_YV yX4_lawTold cX4_lawTold 1 (some FieldType.int) 0 := ⟨tw_565, tw_563, tw_564, tw_3, by decide +kernel, by decide⟩
theorem yv_X4_handsTold : hv_YV yX4_handsTold cX4_handsTold 1 (some FieldType.int) 0 := ⟨tw_569, tw_567, tw_568, tw_3, by decide +kernel, by decide⟩
theorem yv_X4_linesTold : hv_YV yX4_linesTold cX4_linesTold 1 (some FieldType.int) 0 := ⟨tw_573, tw_571, tw_572, tw_3, by decide +kernel, by decide⟩
theorem yv_X4_versionsTold : hv_YV yX4_versionsTold cX4_versionsTold 1 (some FieldType.int) 0 := ⟨tw_577, tw_575, tw_576, tw_3, by decide +kernel, by decide⟩
theorem yv_X4_faultFound : hv_YV yX4_faultFound cX4_faultFound 1 (some FieldType.int) 0 := ⟨tw_790, tw_788, tw_789, tw_3, by decide +kernel, by decide⟩
theorem yv_X4_faultPlace : hv_YV yX4_faultPlace cX4_faultPlace 1 (some FieldType.int) 0 := ⟨tw_794, tw_792, tw_793, tw_3, by decide +kernel, by decide⟩
theorem yv_X4_howOf : hv_YV yX4_howOf cX4_howOf 2 (some FieldType.int) 1 := ⟨tw_581, tw_579, tw_580, tw_3, by decide +kernel, by decide⟩
theorem yv_X4_firstOf : hv_YV yX4_firstOf cX4_firstOf 2 (some FieldType.int) 1 := ⟨tw_585, tw_583, tw_584, tw_3, by decide +kernel, by decide⟩
theorem yv_X4_secondOf : hv_YV yX4_secondOf cX4_secondOf 2 (some FieldType.int) 1 := ⟨tw_589, tw_587, tw_588, tw_3, by decide +kernel, by decide⟩
theorem yv_X4_keyOf : hv_YV yX4_keyOf cX4_keyOf 2 (some FieldType.int) 1 := ⟨tw_593, tw_591, tw_592, tw_3, by decide +kernel, by decide⟩
theorem yv_X4_timeOf : hv_YV yX4_timeOf cX4_timeOf 2 (some FieldType.int) 1 := ⟨tw_597, tw_595, tw_596, tw_3, by decide +kernel, by decide⟩
theorem yv_X4_read : hv_YV yX4_read cX4_read 2 (some FieldType.boolean) 0 := ⟨tw_369, tw_367, tw_368, tw_3, by decide +kernel, by decide⟩
theorem yv_X4_readPlan : hv_YV yX4_readPlan cX4_readPlan 1 (none) 0 := ⟨tw_410, tw_409, pw_2, tw_3, by decide +kernel, by decide⟩
theorem yv_X4_readOther : hv_YV yX4_readOther cX4_readOther 2 (none) 0 := ⟨tw_494, tw_493, pw_7, tw_3, by decide +kernel, by decide⟩
theorem yv_X4_howOfWord : hv_YV yX4_howOfWord cX4_howOfWord 1 (some FieldType.int) 0 := ⟨tw_498, tw_497, pw_8, tw_3, by decide +kernel, by decide⟩
theorem yv_X4_readNew : hv_YV yX4_readNew cX4_readNew 1 (none) 0 := ⟨tw_527, tw_526, pw_13, tw_3, by decide +kernel, by decide⟩
theorem yv_X4_readPut : hv_YV yX4_readPut cX4_readPut 4 (none) 0 := ⟨tw_506, tw_505, pw_9, tw_3, by decide +kernel, by decide⟩
theorem yv_X4_readJoin : hv_YV yX4_readJoin cX4_readJoin 4 (none) 0 := ⟨tw_519, tw_518, pw_11, tw_3, by decide +kernel, by decide⟩
theorem yv_X4_readTake : hv_YV yX4_readTake cX4_readTake 2 (none) 0 := ⟨tw_523, tw_522, pw_12, tw_3, by decide +kernel, by decide⟩
theorem yv_X4_keep : hv_YV yX4_keep cX4_keep 5 (none) 4 := ⟨tw_515, tw_514, pw_10, tw_3, by decide +kernel, by decide⟩
theorem yv_X4_passWord : hv_YV yX4_passWord cX4_passWord 2 (none) 1 := ⟨tw_415, tw_414, pw_3, tw_3, by decide +kernel, by decide⟩
theorem yv_X4_passNumber : hv_YV yX4_passNumber cX4_passNumber 4 (some FieldType.int) 2 := ⟨tw_481, tw_480, pw_5, tw_3, by decide +kernel, by decide⟩
theorem yv_X4_passSign : hv_YV yX4_passSign cX4_passSign 1 (none) 0 := ⟨tw_490, tw_489, pw_6, tw_3, by decide +kernel, by decide⟩
theorem yv_X4_blame : hv_YV yX4_blame cX4_blame 3 (none) 2 := ⟨tw_475, tw_474, pw_4, tw_3, by decide +kernel, by decide⟩
theorem yv_X5_last : hv_YV yX5_last cX5_last 1 (some FieldType.int) 0 := ⟨tw_1068, tw_1066, tw_1067, tw_11, by decide +kernel, by decide⟩
theorem yv_X5_late : hv_YV yX5_late cX5_late 1 (some FieldType.int) 0 := ⟨tw_1072, tw_1070, tw_1071, tw_11, by decide +kernel, by decide⟩
theorem yv_X5_lateTogether : hv_YV yX5_lateTogether cX5_lateTogether 1 (some FieldType.int) 0 := ⟨tw_1076, tw_1074, tw_1075, tw_11, by decide +kernel, by decide⟩
theorem yv_X5_lateMost : hv_YV yX5_lateMost cX5_lateMost 1 (some FieldType.int) 0 := ⟨tw_1080, tw_1078, tw_1079, tw_11, by decide +kernel, by decide⟩
theorem yv_X5_handOf : hv_YV yX5_handOf cX5_handOf 2 (some FieldType.int) 1 := ⟨tw_1088, tw_1086, tw_1087, tw_11, by decide +kernel, by decide⟩
theorem yv_X5_endOf : hv_YV yX5_endOf cX5_endOf 2 (some FieldType.int) 1 := ⟨tw_1096, tw_1094, tw_1095, tw_11, by decide +kernel, by decide⟩
theorem yv_X5_work : hv_YV yX5_work cX5_work 5 (none) 3 := ⟨tw_1049, tw_1047, tw_1048, tw_11, by decide +kernel, by decide⟩
theorem yv_X5_workOn : hv_YV yX5_workOn cX5_workOn 7 (none) 3 := ⟨tw_1056, tw_1055, pw_38, tw_11, by decide +kernel, by decide⟩
theorem yv_X5_freeFirst : hv_YV yX5_freeFirst cX5_freeFirst 4 (some FieldType.int) 1 := ⟨tw_1060, tw_1059, pw_39, tw_11, by decide +kernel, by decide⟩
theorem yv_X6_versions : hv_YV yX6_versions cX6_versions 1 (some FieldType.int) 0 := ⟨tw_605, tw_603, tw_604, tw_6, by decide +kernel, by decide⟩
theorem yv_X6_howOf : hv_YV yX6_howOf cX6_howOf 2 (some FieldType.int) 1 := ⟨tw_543, tw_541, tw_542, tw_6, by decide +kernel, by decide⟩
theorem yv_X6_firstOf : hv_YV yX6_firstOf cX6_firstOf 2 (some FieldType.int) 1 := ⟨tw_811, tw_809, tw_810, tw_6, by decide +kernel, by decide⟩
theorem yv_X6_secondOf : hv_YV yX6_secondOf cX6_secondOf 2 (some FieldType.int) 1 := ⟨tw_815, tw_813, tw_814, tw_6, by decide +kernel, by decide⟩
theorem yv_X6_jobOf : hv_YV yX6_jobOf cX6_jobOf 2 (some FieldType.int) 1 := ⟨tw_819, tw_817, tw_818, tw_6, by decide +kernel, by decide⟩
theorem yv_X6_add : hv_YV yX6_add cX6_add 5 (none) 4 := ⟨tw_776, tw_774, tw_775, tw_6, by decide +kernel, by decide⟩
theorem yv_X6_cut : hv_YV yX6_cut cX6_cut 2 (none) 1 := ⟨tw_561, tw_559, tw_560, tw_6, by decide +kernel, by decide⟩
theorem yv_X6_putsFrom : hv_YV yX6_putsFrom cX6_putsFrom 4 (some FieldType.int) 1 := ⟨tw_539, tw_537, tw_538, tw_6, by decide +kernel, by decide⟩
theorem yv_X6_madeOf : hv_YV yX6_madeOf cX6_madeOf 3 (some FieldType.boolean) 2 := ⟨tw_1014, tw_1012, tw_1013, tw_6, by decide +kernel, by decide⟩
theorem yv_X6_rootsOf : hv_YV yX6_rootsOf cX6_rootsOf 2 (some FieldType.int) 1 := ⟨tw_1022, tw_1020, tw_1021, tw_6, by decide +kernel, by decide⟩
theorem yv_X6_withRoots : hv_YV yX6_withRoots cX6_withRoots 2 (some FieldType.int) 1 := ⟨tw_781, tw_780, pw_30, tw_6, by decide +kernel, by decide⟩
theorem yv_X7_length : hv_YV yX7_length cX7_length 1 (some FieldType.int) 0 := ⟨tw_346, tw_344, tw_345, tw_2, by decide +kernel, by decide⟩
theorem yv_X7_byteAt : hv_YV yX7_byteAt cX7_byteAt 2 (some FieldType.int) 1 := ⟨tw_382, tw_380, tw_381, tw_2, by decide +kernel, by decide⟩
theorem yv_X7_add : hv_YV yX7_add cX7_add 3 (none) 1 := ⟨tw_350, tw_348, tw_349, tw_2, by decide +kernel, by decide⟩
theorem yv_X7_cut : hv_YV yX7_cut cX7_cut 2 (none) 1 := ⟨tw_361, tw_359, tw_360, tw_2, by decide +kernel, by decide⟩
theorem yv_X8_kind : hv_YV yX8_kind cX8_kind 1 (some FieldType.int) 0 := ⟨tw_406, tw_404, tw_405, tw_4, by decide +kernel, by decide⟩
theorem yv_X8_start : hv_YV yX8_start cX8_start 1 (some FieldType.int) 0 := ⟨tw_471, tw_469, tw_470, tw_4, by decide +kernel, by decide⟩
theorem yv_X8_value : hv_YV yX8_value cX8_value 1 (some FieldType.int) 0 := ⟨tw_485, tw_483, tw_484, tw_4, by decide +kernel, by decide⟩
theorem yv_X8_begin : hv_YV yX8_begin cX8_begin 1 (none) 0 := ⟨tw_373, tw_371, tw_372, tw_4, by decide +kernel, by decide⟩
theorem yv_X8_move : hv_YV yX8_move cX8_move 1 (none) 0 := ⟨tw_377, tw_375, tw_376, tw_4, by decide +kernel, by decide⟩
theorem yv_X8_isWord : hv_YV yX8_isWord cX8_isWord 3 (some FieldType.boolean) 1 := ⟨tw_419, tw_417, tw_418, tw_4, by decide +kernel, by decide⟩
theorem yv_X8_passLetters : hv_YV yX8_passLetters cX8_passLetters 1 (none) 0 := ⟨tw_392, tw_391, pw_0, tw_4, by decide +kernel, by decide⟩
theorem yv_X8_passDigits : hv_YV yX8_passDigits cX8_passDigits 1 (none) 0 := ⟨tw_399, tw_398, pw_1, tw_4, by decide +kernel, by decide⟩
theorem ys_X8_isBlank : hv_YS yX8_isBlank cX8_isBlank 1 (some FieldType.boolean) 1 := ⟨tw_385, tw_384, tw_4, by decide +kernel, by decide⟩
theorem ys_X8_isLetter : hv_YS yX8_isLetter cX8_isLetter 1 (some FieldType.boolean) 1 := ⟨tw_388, tw_387, tw_4, by decide +kernel, by decide⟩
theorem ys_X8_isDigit : hv_YS yX8_isDigit cX8_isDigit 1 (some FieldType.boolean) 1 := ⟨tw_395, tw_394, tw_4, by decide +kernel, by decide⟩
theorem yv_X9_begin : hv_YV yX9_begin cX9_begin 1 (none) 0 := ⟨tw_917, tw_915, tw_916, tw_10, by decide +kernel, by decide⟩
theorem yv_X9_met : hv_YV yX9_met cX9_met 1 (some FieldType.int) 0 := ⟨tw_944, tw_942, tw_943, tw_10, by decide +kernel, by decide⟩
theorem yv_X9_over : hv_YV yX9_over cX9_over 5 (none) 2 := ⟨tw_925, tw_923, tw_924, tw_10, by decide +kernel, by decide⟩
theorem yv_X9_meetAll : hv_YV yX9_meetAll cX9_meetAll 5 (none) 2 := ⟨tw_937, tw_936, pw_36, tw_10, by decide +kernel, by decide⟩
theorem yv_X9_meet : hv_YV yX9_meet cX9_meet 2 (none) 1 := ⟨tw_929, tw_928, pw_35, tw_10, by decide +kernel, by decide⟩
theorem yv_X10_feed : hv_YV yX10_feed cX10_feed 6 (some FieldType.int) 5 := ⟨tw_342, tw_340, tw_341, tw_1, by decide +kernel, by decide⟩
theorem yv_X10_end : hv_YV yX10_end cX10_end 2 (some FieldType.int) 1 := ⟨tw_357, tw_355, tw_356, tw_1, by decide +kernel, by decide⟩
theorem yv_X10_plan : hv_YV yX10_plan cX10_plan 3 (some FieldType.int) 0 := ⟨tw_365, tw_363, tw_364, tw_1, by decide +kernel, by decide⟩
theorem yv_X10_fault : hv_YV yX10_fault cX10_fault 2 (some FieldType.int) 1 := ⟨tw_786, tw_784, tw_785, tw_1, by decide +kernel, by decide⟩
theorem yv_X10_count : hv_YV yX10_count cX10_count 2 (some FieldType.int) 1 := ⟨tw_798, tw_796, tw_797, tw_1, by decide +kernel, by decide⟩
theorem yv_X10_version : hv_YV yX10_version cX10_version 3 (some FieldType.int) 2 := ⟨tw_802, tw_800, tw_801, tw_1, by decide +kernel, by decide⟩
theorem yv_X10_job : hv_YV yX10_job cX10_job 3 (some FieldType.int) 2 := ⟨tw_823, tw_821, tw_822, tw_1, by decide +kernel, by decide⟩
theorem yv_X10_size : hv_YV yX10_size cX10_size 2 (some FieldType.int) 1 := ⟨tw_836, tw_834, tw_835, tw_1, by decide +kernel, by decide⟩
theorem yv_X10_least : hv_YV yX10_least cX10_least 2 (some FieldType.int) 1 := ⟨tw_841, tw_839, tw_840, tw_1, by decide +kernel, by decide⟩
theorem yv_X10_place : hv_YV yX10_place cX10_place 3 (some FieldType.int) 2 := ⟨tw_845, tw_843, tw_844, tw_1, by decide +kernel, by decide⟩
theorem yv_X10_times : hv_YV yX10_times cX10_times 3 (some FieldType.int) 2 := ⟨tw_849, tw_847, tw_848, tw_1, by decide +kernel, by decide⟩
theorem yv_X10_trees : hv_YV yX10_trees cX10_trees 2 (some FieldType.int) 1 := ⟨tw_857, tw_855, tw_856, tw_1, by decide +kernel, by decide⟩
theorem yv_X10_rank : hv_YV yX10_rank cX10_rank 4 (some FieldType.int) 2 := ⟨tw_873, tw_871, tw_872, tw_1, by decide +kernel, by decide⟩
theorem yv_X10_holds : hv_YV yX10_holds cX10_holds 4 (some FieldType.int) 2 := ⟨tw_890, tw_888, tw_889, tw_1, by decide +kernel, by decide⟩
theorem yv_X10_singles : hv_YV yX10_singles cX10_singles 4 (some FieldType.int) 2 := ⟨tw_895, tw_893, tw_894, tw_1, by decide +kernel, by decide⟩
theorem yv_X10_head : hv_YV yX10_head cX10_head 4 (some FieldType.int) 2 := ⟨tw_901, tw_899, tw_900, tw_1, by decide +kernel, by decide⟩
theorem yv_X10_depth : hv_YV yX10_depth cX10_depth 2 (some FieldType.int) 1 := ⟨tw_907, tw_905, tw_906, tw_1, by decide +kernel, by decide⟩
theorem yv_X10_parts : hv_YV yX10_parts cX10_parts 2 (some FieldType.int) 1 := ⟨tw_913, tw_911, tw_912, tw_1, by decide +kernel, by decide⟩
theorem yv_X10_own : hv_YV yX10_own cX10_own 3 (some FieldType.int) 1 := ⟨tw_948, tw_946, tw_947, tw_1, by decide +kernel, by decide⟩
theorem yv_X10_shared : hv_YV yX10_shared cX10_shared 6 (some FieldType.int) 2 := ⟨tw_952, tw_950, tw_951, tw_1, by decide +kernel, by decide⟩
theorem yv_X10_links : hv_YV yX10_links cX10_links 2 (some FieldType.int) 1 := ⟨tw_956, tw_954, tw_955, tw_1, by decide +kernel, by decide⟩
theorem yv_X10_all : hv_YV yX10_all cX10_all 1 (some FieldType.int) 0 := ⟨tw_964, tw_962, tw_963, tw_1, by decide +kernel, by decide⟩
theorem yv_X10_by : hv_YV yX10_by cX10_by 3 (some FieldType.int) 2 := ⟨tw_973, tw_971, tw_972, tw_1, by decide +kernel, by decide⟩
theorem yv_X10_lean : hv_YV yX10_lean cX10_lean 1 (some FieldType.int) 0 := ⟨tw_977, tw_975, tw_976, tw_1, by decide +kernel, by decide⟩
theorem yv_X10_drain : hv_YV yX10_drain cX10_drain 2 (some FieldType.int) 1 := ⟨tw_981, tw_979, tw_980, tw_1, by decide +kernel, by decide⟩
theorem yv_X10_dearest : hv_YV yX10_dearest cX10_dearest 2 (some FieldType.int) 1 := ⟨tw_989, tw_987, tw_988, tw_1, by decide +kernel, by decide⟩
theorem yv_X10_same : hv_YV yX10_same cX10_same 3 (some FieldType.int) 2 := ⟨tw_998, tw_996, tw_997, tw_1, by decide +kernel, by decide⟩
theorem yv_X10_more : hv_YV yX10_more cX10_more 3 (some FieldType.int) 2 := ⟨tw_1006, tw_1004, tw_1005, tw_1, by decide +kernel, by decide⟩
theorem yv_X10_from : hv_YV yX10_from cX10_from 3 (some FieldType.int) 2 := ⟨tw_1010, tw_1008, tw_1009, tw_1, by decide +kernel, by decide⟩
theorem yv_X10_roots : hv_YV yX10_roots cX10_roots 2 (some FieldType.int) 1 := ⟨tw_1018, tw_1016, tw_1017, tw_1, by decide +kernel, by decide⟩
theorem yv_X10_without : hv_YV yX10_without cX10_without 3 (some FieldType.int) 2 := ⟨tw_1032, tw_1030, tw_1031, tw_1, by decide +kernel, by decide⟩
theorem yv_X10_left : hv_YV yX10_left cX10_left 3 (some FieldType.int) 2 := ⟨tw_1041, tw_1039, tw_1040, tw_1, by decide +kernel, by decide⟩
theorem yv_X10_done : hv_YV yX10_done cX10_done 3 (some FieldType.int) 2 := ⟨tw_1045, tw_1043, tw_1044, tw_1, by decide +kernel, by decide⟩
theorem yv_X10_hand : hv_YV yX10_hand cX10_hand 3 (some FieldType.int) 2 := ⟨tw_1084, tw_1082, tw_1083, tw_1, by decide +kernel, by decide⟩
theorem yv_X10_ends : hv_YV yX10_ends cX10_ends 3 (some FieldType.int) 2 := ⟨tw_1092, tw_1090, tw_1091, tw_1, by decide +kernel, by decide⟩
theorem yv_X10_hands : hv_YV yX10_hands cX10_hands 3 (some FieldType.int) 1 := ⟨tw_1100, tw_1098, tw_1099, tw_1, by decide +kernel, by decide⟩
theorem yv_X10_puts : hv_YV yX10_puts cX10_puts 4 (some FieldType.int) 3 := ⟨tw_1104, tw_1102, tw_1103, tw_1, by decide +kernel, by decide⟩
theorem yv_X10_joins : hv_YV yX10_joins cX10_joins 3 (some FieldType.int) 2 := ⟨tw_1108, tw_1106, tw_1107, tw_1, by decide +kernel, by decide⟩
theorem yv_X10_takes : hv_YV yX10_takes cX10_takes 2 (some FieldType.int) 1 := ⟨tw_1112, tw_1110, tw_1111, tw_1, by decide +kernel, by decide⟩
theorem yv_X10_undo : hv_YV yX10_undo cX10_undo 1 (some FieldType.int) 0 := ⟨tw_1116, tw_1114, tw_1115, tw_1, by decide +kernel, by decide⟩
theorem yv_X10_anew : hv_YV yX10_anew cX10_anew 2 (some FieldType.int) 0 := ⟨tw_1120, tw_1118, tw_1119, tw_1, by decide +kernel, by decide⟩
theorem yv_X10_has : hv_YV yX10_has cX10_has 2 (some FieldType.boolean) 1 := ⟨tw_806, tw_805, pw_31, tw_1, by decide +kernel, by decide⟩
theorem yv_X10_heaps : hv_YV yX10_heaps cX10_heaps 1 (some (FieldType.object "HeapVersions$Heaps")) 0 := ⟨tw_861, tw_860, pw_32, tw_1, by decide +kernel, by decide⟩
theorem yv_X10_treeAt : hv_YV yX10_treeAt cX10_treeAt 4 (some FieldType.int) 2 := ⟨tw_877, tw_876, pw_33, tw_1, by decide +kernel, by decide⟩
theorem yv_X10_walkOver : hv_YV yX10_walkOver cX10_walkOver 2 (some FieldType.int) 1 := ⟨tw_921, tw_920, pw_34, tw_1, by decide +kernel, by decide⟩
theorem yv_X10_grow : hv_YV yX10_grow cX10_grow 9 (some FieldType.int) 5 := ⟨tw_601, tw_600, pw_15, tw_1, by decide +kernel, by decide⟩
theorem yv_X10_cutTo : hv_YV yX10_cutTo cX10_cutTo 2 (none) 1 := ⟨tw_531, tw_530, pw_14, tw_1, by decide +kernel, by decide⟩
theorem yv_X10_suppose : hv_YV yX10_suppose cX10_suppose 4 (some FieldType.boolean) 2 := ⟨tw_1036, tw_1035, pw_37, tw_1, by decide +kernel, by decide⟩
theorem ys_X10_at : hv_YS yX10_at cX10_at 2 (some FieldType.int) 2 := ⟨tw_509, tw_508, tw_1, by decide +kernel, by decide⟩
theorem ys_X10_set : hv_YS yX10_set cX10_set 3 (none) 3 := ⟨tw_353, tw_352, tw_1, by decide +kernel, by decide⟩
theorem ys_X11_in : hv_YS yX11_in cX11_in 6 (some FieldType.boolean) 3 := ⟨tw_1235, tw_1234, tw_12, by decide +kernel, by decide⟩
theorem yv_X11_feed : hv_YV yX11_feed cX11_feed 8 (some FieldType.int) 5 := ⟨tw_1228, tw_1226, tw_1227, tw_12, by decide +kernel, by decide⟩
theorem yv_X11_end : hv_YV yX11_end cX11_end 2 (some FieldType.int) 1 := ⟨tw_1232, tw_1230, tw_1231, tw_12, by decide +kernel, by decide⟩
theorem yv_X11_isAt : hv_YV yX11_isAt cX11_isAt 3 (some FieldType.boolean) 2 := ⟨tw_1247, tw_1246, pw_41, tw_12, by decide +kernel, by decide⟩
theorem yv_X11_next : hv_YV yX11_next cX11_next 1 (none) 0 := ⟨tw_1243, tw_1242, pw_40, tw_12, by decide +kernel, by decide⟩
theorem yv_X11_faults : hv_YV yX11_faults cX11_faults 2 (none) 1 := ⟨tw_1268, tw_1267, pw_45, tw_12, by decide +kernel, by decide⟩
theorem yv_X11_isWord : hv_YV yX11_isWord cX11_isWord 3 (some FieldType.boolean) 1 := ⟨tw_1258, tw_1257, pw_43, tw_12, by decide +kernel, by decide⟩
theorem yv_X11_passes : hv_YV yX11_passes cX11_passes 2 (none) 1 := ⟨tw_1264, tw_1263, pw_44, tw_12, by decide +kernel, by decide⟩
theorem yv_X11_reads : hv_YV yX11_reads cX11_reads 4 (some FieldType.int) 2 := ⟨tw_1273, tw_1272, pw_46, tw_12, by decide +kernel, by decide⟩
theorem yv_X11_readsVersion : hv_YV yX11_readsVersion cX11_readsVersion 3 (some FieldType.int) 2 := ⟨tw_1290, tw_1289, pw_49, tw_12, by decide +kernel, by decide⟩
theorem yv_X11_readsPlan : hv_YV yX11_readsPlan cX11_readsPlan 1 (none) 0 := ⟨tw_1253, tw_1252, pw_42, tw_12, by decide +kernel, by decide⟩
theorem yv_X11_how : hv_YV yX11_how cX11_how 1 (some FieldType.int) 0 := ⟨tw_1282, tw_1281, pw_48, tw_12, by decide +kernel, by decide⟩
theorem yv_X11_readsVersion_ : hv_YV yX11_readsVersion_ cX11_readsVersion_ 6 (none) 0 := ⟨tw_1278, tw_1277, pw_47, tw_12, by decide +kernel, by decide⟩
theorem yv_X11_makes : hv_YV yX11_makes cX11_makes 7 (none) 5 := ⟨tw_1295, tw_1294, pw_50, tw_12, by decide +kernel, by decide⟩
theorem yv_X11_plan : hv_YV yX11_plan cX11_plan 2 (some FieldType.int) 0 := ⟨tw_1239, tw_1237, tw_1238, tw_12, by decide +kernel, by decide⟩
theorem yv_X11_fault : hv_YV yX11_fault cX11_fault 2 (some FieldType.int) 1 := ⟨tw_1299, tw_1297, tw_1298, tw_12, by decide +kernel, by decide⟩
theorem yv_X11_count : hv_YV yX11_count cX11_count 2 (some FieldType.int) 1 := ⟨tw_1303, tw_1301, tw_1302, tw_12, by decide +kernel, by decide⟩
theorem yv_X11_isVersion : hv_YV yX11_isVersion cX11_isVersion 2 (some FieldType.boolean) 1 := ⟨tw_1311, tw_1310, pw_51, tw_12, by decide +kernel, by decide⟩
theorem yv_X11_isJob : hv_YV yX11_isJob cX11_isJob 2 (some FieldType.boolean) 1 := ⟨tw_1383, tw_1382, pw_68, tw_12, by decide +kernel, by decide⟩
theorem yv_X11_version : hv_YV yX11_version cX11_version 3 (some FieldType.int) 2 := ⟨tw_1307, tw_1305, tw_1306, tw_12, by decide +kernel, by decide⟩
theorem yv_X11_jobOf : hv_YV yX11_jobOf cX11_jobOf 2 (some FieldType.int) 1 := ⟨tw_1315, tw_1314, pw_52, tw_12, by decide +kernel, by decide⟩
theorem yv_X11_job : hv_YV yX11_job cX11_job 3 (some FieldType.int) 2 := ⟨tw_1379, tw_1377, tw_1378, tw_12, by decide +kernel, by decide⟩
theorem yv_X11_ahead : hv_YV yX11_ahead cX11_ahead 3 (some FieldType.int) 2 := ⟨tw_1347, tw_1346, pw_60, tw_12, by decide +kernel, by decide⟩
theorem yv_X11_longOf : hv_YV yX11_longOf cX11_longOf 4 (some FieldType.int) 1 := ⟨tw_1435, tw_1434, pw_76, tw_12, by decide +kernel, by decide⟩
theorem yv_X11_thingOf : hv_YV yX11_thingOf cX11_thingOf 5 (some FieldType.int) 2 := ⟨tw_1447, tw_1446, pw_78, tw_12, by decide +kernel, by decide⟩
theorem yv_X11_heap : hv_YV yX11_heap cX11_heap 3 (some FieldType.int) 2 := ⟨tw_1323, tw_1322, pw_54, tw_12, by decide +kernel, by decide⟩
theorem yv_X11_tree : hv_YV yX11_tree cX11_tree 5 (some FieldType.int) 4 := ⟨tw_1351, tw_1350, pw_61, tw_12, by decide +kernel, by decide⟩
theorem yv_X11_isJobLess : hv_YV yX11_isJobLess cX11_isJobLess 3 (some FieldType.boolean) 2 := ⟨tw_1335, tw_1334, pw_57, tw_12, by decide +kernel, by decide⟩
theorem yv_X11_isLess : hv_YV yX11_isLess cX11_isLess 3 (some FieldType.boolean) 2 := ⟨tw_1331, tw_1330, pw_56, tw_12, by decide +kernel, by decide⟩
theorem yv_X11_link : hv_YV yX11_link cX11_link 5 (some FieldType.int) 2 := ⟨tw_1343, tw_1342, pw_59, tw_12, by decide +kernel, by decide⟩
theorem yv_X11_carries : hv_YV yX11_carries cX11_carries 5 (some FieldType.int) 2 := ⟨tw_1355, tw_1354, pw_62, tw_12, by decide +kernel, by decide⟩
theorem yv_X11_sets : hv_YV yX11_sets cX11_sets 9 (some FieldType.int) 3 := ⟨tw_1339, tw_1338, pw_58, tw_12, by decide +kernel, by decide⟩
theorem yv_X11_settled : hv_YV yX11_settled cX11_settled 2 (some FieldType.int) 1 := ⟨tw_1371, tw_1370, pw_66, tw_12, by decide +kernel, by decide⟩
theorem yv_X11_merges : hv_YV yX11_merges cX11_merges 4 (some FieldType.int) 2 := ⟨tw_1367, tw_1366, pw_65, tw_12, by decide +kernel, by decide⟩
theorem yv_X11_goesTogether : hv_YV yX11_goesTogether cX11_goesTogether 6 (some FieldType.int) 2 := ⟨tw_1375, tw_1374, pw_67, tw_12, by decide +kernel, by decide⟩
theorem yv_X11_joins : hv_YV yX11_joins cX11_joins 6 (some FieldType.int) 3 := ⟨tw_1327, tw_1326, pw_55, tw_12, by decide +kernel, by decide⟩
theorem yv_X11_takes : hv_YV yX11_takes cX11_takes 8 (some FieldType.int) 2 := ⟨tw_1359, tw_1358, pw_63, tw_12, by decide +kernel, by decide⟩
theorem yv_X11_withoutFirst : hv_YV yX11_withoutFirst cX11_withoutFirst 3 (some FieldType.int) 2 := ⟨tw_1363, tw_1362, pw_64, tw_12, by decide +kernel, by decide⟩
theorem yv_X11_makesAll : hv_YV yX11_makesAll cX11_makesAll 5 (none) 2 := ⟨tw_1319, tw_1318, pw_53, tw_12, by decide +kernel, by decide⟩
theorem yv_X11_heapOf : hv_YV yX11_heapOf cX11_heapOf 2 (some FieldType.int) 1 := ⟨tw_1391, tw_1390, pw_69, tw_12, by decide +kernel, by decide⟩
theorem yv_X11_countsHeap : hv_YV yX11_countsHeap cX11_countsHeap 4 (some FieldType.int) 1 := ⟨tw_1399, tw_1398, pw_71, tw_12, by decide +kernel, by decide⟩
theorem yv_X11_countsTree : hv_YV yX11_countsTree cX11_countsTree 4 (some FieldType.int) 1 := ⟨tw_1403, tw_1402, pw_72, tw_12, by decide +kernel, by decide⟩
theorem yv_X11_counts : hv_YV yX11_counts cX11_counts 3 (some FieldType.int) 1 := ⟨tw_1395, tw_1394, pw_70, tw_12, by decide +kernel, by decide⟩
theorem yv_X11_ordered : hv_YV yX11_ordered cX11_ordered 6 (some FieldType.int) 1 := ⟨tw_1419, tw_1418, pw_74, tw_12, by decide +kernel, by decide⟩
theorem yv_X11_size : hv_YV yX11_size cX11_size 2 (some FieldType.int) 1 := ⟨tw_1387, tw_1385, tw_1386, tw_12, by decide +kernel, by decide⟩
theorem yv_X11_leastOf : hv_YV yX11_leastOf cX11_leastOf 2 (some FieldType.int) 1 := ⟨tw_1411, tw_1410, pw_73, tw_12, by decide +kernel, by decide⟩
theorem yv_X11_least : hv_YV yX11_least cX11_least 2 (some FieldType.int) 1 := ⟨tw_1407, tw_1405, tw_1406, tw_12, by decide +kernel, by decide⟩
theorem yv_X11_place : hv_YV yX11_place cX11_place 3 (some FieldType.int) 2 := ⟨tw_1415, tw_1413, tw_1414, tw_12, by decide +kernel, by decide⟩
theorem yv_X11_times : hv_YV yX11_times cX11_times 3 (some FieldType.int) 2 := ⟨tw_1423, tw_1421, tw_1422, tw_12, by decide +kernel, by decide⟩
theorem yv_X11_queueOf : hv_YV yX11_queueOf cX11_queueOf 3 (some FieldType.int) 1 := ⟨tw_1431, tw_1430, pw_75, tw_12, by decide +kernel, by decide⟩
theorem yv_X11_trees : hv_YV yX11_trees cX11_trees 2 (some FieldType.int) 1 := ⟨tw_1427, tw_1425, tw_1426, tw_12, by decide +kernel, by decide⟩
theorem yv_X11_treeAt : hv_YV yX11_treeAt cX11_treeAt 4 (some FieldType.int) 2 := ⟨tw_1443, tw_1442, pw_77, tw_12, by decide +kernel, by decide⟩
theorem yv_X11_rank : hv_YV yX11_rank cX11_rank 4 (some FieldType.int) 2 := ⟨tw_1439, tw_1437, tw_1438, tw_12, by decide +kernel, by decide⟩
theorem yv_X11_holds : hv_YV yX11_holds cX11_holds 4 (some FieldType.int) 2 := ⟨tw_1451, tw_1449, tw_1450, tw_12, by decide +kernel, by decide⟩
theorem yv_X11_singles : hv_YV yX11_singles cX11_singles 4 (some FieldType.int) 2 := ⟨tw_1455, tw_1453, tw_1454, tw_12, by decide +kernel, by decide⟩
theorem yv_X11_head : hv_YV yX11_head cX11_head 4 (some FieldType.int) 2 := ⟨tw_1459, tw_1457, tw_1458, tw_12, by decide +kernel, by decide⟩
theorem yv_X11_deepOf : hv_YV yX11_deepOf cX11_deepOf 4 (some FieldType.int) 1 := ⟨tw_1467, tw_1466, pw_79, tw_12, by decide +kernel, by decide⟩
theorem yv_X11_deepIn : hv_YV yX11_deepIn cX11_deepIn 4 (some FieldType.int) 1 := ⟨tw_1471, tw_1470, pw_80, tw_12, by decide +kernel, by decide⟩
theorem yv_X11_depth : hv_YV yX11_depth cX11_depth 2 (some FieldType.int) 1 := ⟨tw_1463, tw_1461, tw_1462, tw_12, by decide +kernel, by decide⟩
theorem yv_X11_marks : hv_YV yX11_marks cX11_marks 4 (none) 2 := ⟨tw_1484, tw_1483, pw_82, tw_12, by decide +kernel, by decide⟩
theorem yv_X11_marksTree : hv_YV yX11_marksTree cX11_marksTree 4 (none) 2 := ⟨tw_1488, tw_1487, pw_83, tw_12, by decide +kernel, by decide⟩
theorem yv_X11_clears : hv_YV yX11_clears cX11_clears 2 (none) 0 := ⟨tw_1480, tw_1479, pw_81, tw_12, by decide +kernel, by decide⟩
theorem yv_X11_marked : hv_YV yX11_marked cX11_marked 4 (some FieldType.int) 1 := ⟨tw_1492, tw_1491, pw_84, tw_12, by decide +kernel, by decide⟩
theorem yv_X11_parts : hv_YV yX11_parts cX11_parts 2 (some FieldType.int) 1 := ⟨tw_1476, tw_1474, tw_1475, tw_12, by decide +kernel, by decide⟩
theorem yv_X11_own : hv_YV yX11_own cX11_own 2 (some FieldType.int) 1 := ⟨tw_1496, tw_1494, tw_1495, tw_12, by decide +kernel, by decide⟩
theorem yv_X11_shared : hv_YV yX11_shared cX11_shared 3 (some FieldType.int) 2 := ⟨tw_1500, tw_1498, tw_1499, tw_12, by decide +kernel, by decide⟩
theorem yv_X11_links : hv_YV yX11_links cX11_links 2 (some FieldType.int) 1 := ⟨tw_1504, tw_1502, tw_1503, tw_12, by decide +kernel, by decide⟩
theorem yv_X11_allBy : hv_YV yX11_allBy cX11_allBy 4 (some FieldType.int) 1 := ⟨tw_1516, tw_1515, pw_85, tw_12, by decide +kernel, by decide⟩
theorem yv_X11_all : hv_YV yX11_all cX11_all 1 (some FieldType.int) 0 := ⟨tw_1512, tw_1510, tw_1511, tw_12, by decide +kernel, by decide⟩
theorem yv_X11_by : hv_YV yX11_by cX11_by 3 (some FieldType.int) 2 := ⟨tw_1508, tw_1506, tw_1507, tw_12, by decide +kernel, by decide⟩
theorem yv_X11_lean : hv_YV yX11_lean cX11_lean 1 (some FieldType.int) 0 := ⟨tw_1521, tw_1519, tw_1520, tw_12, by decide +kernel, by decide⟩
theorem yv_X11_drained : hv_YV yX11_drained cX11_drained 6 (some FieldType.int) 2 := ⟨tw_1529, tw_1528, pw_86, tw_12, by decide +kernel, by decide⟩
theorem yv_X11_drain : hv_YV yX11_drain cX11_drain 2 (some FieldType.int) 1 := ⟨tw_1525, tw_1523, tw_1524, tw_12, by decide +kernel, by decide⟩
theorem yv_X11_dearest : hv_YV yX11_dearest cX11_dearest 2 (some FieldType.int) 1 := ⟨tw_1533, tw_1531, tw_1532, tw_12, by decide +kernel, by decide⟩
theorem yv_X11_moreOf : hv_YV yX11_moreOf cX11_moreOf 7 (some FieldType.int) 2 := ⟨tw_1541, tw_1540, pw_87, tw_12, by decide +kernel, by decide⟩
theorem yv_X11_same : hv_YV yX11_same cX11_same 3 (some FieldType.int) 2 := ⟨tw_1537, tw_1535, tw_1536, tw_12, by decide +kernel, by decide⟩
theorem yv_X11_more : hv_YV yX11_more cX11_more 3 (some FieldType.int) 2 := ⟨tw_1545, tw_1543, tw_1544, tw_12, by decide +kernel, by decide⟩
theorem yv_X11_madeOf : hv_YV yX11_madeOf cX11_madeOf 4 (some FieldType.int) 1 := ⟨tw_1557, tw_1556, pw_89, tw_12, by decide +kernel, by decide⟩
theorem yv_X11_isFrom : hv_YV yX11_isFrom cX11_isFrom 3 (some FieldType.boolean) 2 := ⟨tw_1553, tw_1552, pw_88, tw_12, by decide +kernel, by decide⟩
theorem yv_X11_from : hv_YV yX11_from cX11_from 3 (some FieldType.int) 2 := ⟨tw_1549, tw_1547, tw_1548, tw_12, by decide +kernel, by decide⟩
theorem yv_X11_roots : hv_YV yX11_roots cX11_roots 4 (some FieldType.int) 1 := ⟨tw_1561, tw_1559, tw_1560, tw_12, by decide +kernel, by decide⟩
theorem yv_X11_isPut : hv_YV yX11_isPut cX11_isPut 3 (some FieldType.boolean) 2 := ⟨tw_1569, tw_1568, pw_90, tw_12, by decide +kernel, by decide⟩
theorem yv_X11_without : hv_YV yX11_without cX11_without 3 (some FieldType.int) 2 := ⟨tw_1565, tw_1563, tw_1564, tw_12, by decide +kernel, by decide⟩
theorem yv_X11_left : hv_YV yX11_left cX11_left 3 (some FieldType.int) 2 := ⟨tw_1573, tw_1571, tw_1572, tw_12, by decide +kernel, by decide⟩
theorem yv_X11_does : hv_YV yX11_does cX11_does 7 (some FieldType.int) 2 := ⟨tw_1582, tw_1581, pw_91, tw_12, by decide +kernel, by decide⟩
theorem yv_X11_done : hv_YV yX11_done cX11_done 10 (some FieldType.int) 2 := ⟨tw_1577, tw_1575, tw_1576, tw_12, by decide +kernel, by decide⟩
theorem yv_X11_hand : hv_YV yX11_hand cX11_hand 3 (some FieldType.int) 2 := ⟨tw_1586, tw_1584, tw_1585, tw_12, by decide +kernel, by decide⟩
theorem yv_X11_ends : hv_YV yX11_ends cX11_ends 3 (some FieldType.int) 2 := ⟨tw_1590, tw_1588, tw_1589, tw_12, by decide +kernel, by decide⟩
theorem yv_X11_hands : hv_YV yX11_hands cX11_hands 6 (some FieldType.int) 1 := ⟨tw_1594, tw_1592, tw_1593, tw_12, by decide +kernel, by decide⟩
theorem yv_X11_puts : hv_YV yX11_puts cX11_puts 4 (some FieldType.int) 3 := ⟨tw_1598, tw_1596, tw_1597, tw_12, by decide +kernel, by decide⟩
theorem yv_X11_acts : hv_YV yX11_acts cX11_acts 7 (some FieldType.int) 6 := ⟨tw_1604, tw_1603, pw_92, tw_12, by decide +kernel, by decide⟩
theorem yv_X11_joins_ : hv_YV yX11_joins_ cX11_joins_ 3 (some FieldType.int) 2 := ⟨tw_1608, tw_1606, tw_1607, tw_12, by decide +kernel, by decide⟩
theorem yv_X11_takes_ : hv_YV yX11_takes_ cX11_takes_ 2 (some FieldType.int) 1 := ⟨tw_1612, tw_1610, tw_1611, tw_12, by decide +kernel, by decide⟩
theorem yv_X11_takesBack : hv_YV yX11_takesBack cX11_takesBack 1 (none) 0 := ⟨tw_1620, tw_1619, pw_93, tw_12, by decide +kernel, by decide⟩
theorem yv_X11_undo : hv_YV yX11_undo cX11_undo 1 (some FieldType.int) 0 := ⟨tw_1616, tw_1614, tw_1615, tw_12, by decide +kernel, by decide⟩
theorem yv_X11_anew : hv_YV yX11_anew cX11_anew 2 (some FieldType.int) 0 := ⟨tw_1624, tw_1622, tw_1623, tw_12, by decide +kernel, by decide⟩
theorem ys_J6_compare_7cf53 : hv_YS yJ6_compare_7cf53 cJ6_compare_7cf53 2 (some FieldType.int) 2 := ⟨tw_772, tw_771, tw_18, by decide +kernel, by decide⟩
theorem ys_J6_bitCount_0f7a4 : hv_YS yJ6_bitCount_0f7a4 cJ6_bitCount_0f7a4 1 (some FieldType.int) 1 := ⟨tw_1025, tw_1024, tw_18, by decide +kernel, by decide⟩
theorem ys_J9_max_7cf53 : hv_YS yJ9_max_7cf53 cJ9_max_7cf53 2 (some FieldType.int) 2 := ⟨tw_688, tw_687, tw_13, by decide +kernel, by decide⟩
theorem ys_J9_min_7cf53 : hv_YS yJ9_min_7cf53 cJ9_min_7cf53 2 (some FieldType.int) 2 := ⟨tw_402, tw_401, tw_13, by decide +kernel, by decide⟩
theorem yv_J0_length_8abf5 : hv_YV yJ0_length_8abf5 cJ0_length_8abf5 1 (some FieldType.int) 0 := ⟨tw_423, tw_421, tw_422, tw_14, by decide +kernel, by decide⟩
theorem yv_J0_charAt_5068e : hv_YV yJ0_charAt_5068e cJ0_charAt_5068e 2 (some FieldType.char) 1 := ⟨tw_433, tw_431, tw_432, tw_14, by decide +kernel, by decide⟩
theorem yv_J0_coder_7d493 : hv_YV yJ0_coder_7d493 cJ0_coder_7d493 1 (some FieldType.byte) 0 := ⟨tw_427, tw_425, tw_426, tw_14, by decide +kernel, by decide⟩
theorem yv_J0_isLatin1_aae02 : hv_YV yJ0_isLatin1_aae02 cJ0_isLatin1_aae02 1 (some FieldType.boolean) 0 := ⟨tw_437, tw_435, tw_436, tw_14, by decide +kernel, by decide⟩
theorem ys_J0_checkIndex_df160 : hv_YS yJ0_checkIndex_df160 cJ0_checkIndex_df160 2 (none) 2 := ⟨tw_443, tw_442, tw_14, by decide +kernel, by decide⟩
theorem ys_J1_charAt_3b067 : hv_YS yJ1_charAt_3b067 cJ1_charAt_3b067 2 (some FieldType.char) 2 := ⟨tw_440, tw_439, tw_15, by decide +kernel, by decide⟩
theorem ys_J2_getChar_3b067 : hv_YS yJ2_getChar_3b067 cJ2_getChar_3b067 2 (some FieldType.char) 2 := ⟨tw_461, tw_460, tw_17, by decide +kernel, by decide⟩
theorem ys_J2_length_9d52b : hv_YS yJ2_length_9d52b cJ2_length_9d52b 1 (some FieldType.int) 1 := ⟨tw_457, tw_456, tw_17, by decide +kernel, by decide⟩
theorem ys_J2_charAt_3b067 : hv_YS yJ2_charAt_3b067 cJ2_charAt_3b067 2 (some FieldType.char) 2 := ⟨tw_451, tw_450, tw_17, by decide +kernel, by decide⟩
theorem ys_J2_checkIndex_2214a : hv_YS yJ2_checkIndex_2214a cJ2_checkIndex_2214a 2 (none) 2 := ⟨tw_454, tw_453, tw_17, by decide +kernel, by decide⟩
theorem ys_J3_checkIndex_8e157 : hv_YS yJ3_checkIndex_8e157 cJ3_checkIndex_8e157 3 (some FieldType.int) 3 := ⟨tw_448, tw_447, tw_16, by decide +kernel, by decide⟩
theorem sh_X0 {b : Nat} (hb : b = 20 ∨ b = 23) : hv_SH b = some (.inr (0, [some (b + 1), some (b + 2)])) := by rcases hb with rfl | rfl <;> rfl
theorem sh_X0_1 {b : Nat} (hb : b = 20 ∨ b = 23) : hv_SH (b + 1) = some (.inl 720) := by rcases hb with rfl | rfl <;> rfl
theorem sh_X0_2 {b : Nat} (hb : b = 20 ∨ b = 23) : hv_SH (b + 2) = some (.inl 30) := by rcases hb with rfl | rfl <;> rfl
theorem sh_X1 {b : Nat} (hb : b = 27 ∨ b = 43) : hv_SH b = some (.inr (1, [some (b + 1), some (b + 2), some (b + 3), some (b + 4), some (b + 5), some (b + 6), some (b + 7), some (b + 8), some (b + 9), none, none])) := by rcases hb with rfl | rfl <;> rfl
theorem sh_X1_1 {b : Nat} (hb : b = 27 ∨ b = 43) : hv_SH (b + 1) = some (.inl 864) := by rcases hb with rfl | rfl <;> rfl
theorem sh_X1_2 {b : Nat} (hb : b = 27 ∨ b = 43) : hv_SH (b + 2) = some (.inl 864) := by rcases hb with rfl | rfl <;> rfl
theorem sh_X1_3 {b : Nat} (hb : b = 27 ∨ b = 43) : hv_SH (b + 3) = some (.inl 864) := by rcases hb with rfl | rfl <;> rfl
theorem sh_X1_4 {b : Nat} (hb : b = 27 ∨ b = 43) : hv_SH (b + 4) = some (.inl 864) := by rcases hb with rfl | rfl <;> rfl
theorem sh_X1_5 {b : Nat} (hb : b = 27 ∨ b = 43) : hv_SH (b + 5) = some (.inl 864) := by rcases hb with rfl | rfl <;> rfl
theorem sh_X1_6 {b : Nat} (hb : b = 27 ∨ b = 43) : hv_SH (b + 6) = some (.inl 864) := by rcases hb with rfl | rfl <;> rfl
theorem sh_X1_7 {b : Nat} (hb : b = 27 ∨ b = 43) : hv_SH (b + 7) = some (.inl 864) := by rcases hb with rfl | rfl <;> rfl
theorem sh_X1_8 {b : Nat} (hb : b = 27 ∨ b = 43) : hv_SH (b + 8) = some (.inl 2592) := by rcases hb with rfl | rfl <;> rfl
theorem sh_X1_9 {b : Nat} (hb : b = 27 ∨ b = 43) : hv_SH (b + 9) = some (.inl 2592) := by rcases hb with rfl | rfl <;> rfl
theorem sh_X2 {b : Nat} (hb : b = 26 ∨ b = 42) : hv_SH b = some (.inr (2, [none, some (b + 1), some (b + 11), some (b + 12), some (b + 13), some (b + 14), some (b + 15), none, none, none])) := by rcases hb with rfl | rfl <;> rfl
theorem sh_X2_11 {b : Nat} (hb : b = 26 ∨ b = 42) : hv_SH (b + 11) = some (.inl 30) := by rcases hb with rfl | rfl <;> rfl
theorem sh_X2_12 {b : Nat} (hb : b = 26 ∨ b = 42) : hv_SH (b + 12) = some (.inl 30) := by rcases hb with rfl | rfl <;> rfl
theorem sh_X2_13 {b : Nat} (hb : b = 26 ∨ b = 42) : hv_SH (b + 13) = some (.inl 30) := by rcases hb with rfl | rfl <;> rfl
theorem sh_X2_14 {b : Nat} (hb : b = 26 ∨ b = 42) : hv_SH (b + 14) = some (.inl 30) := by rcases hb with rfl | rfl <;> rfl
theorem sh_X2_15 {b : Nat} (hb : b = 26 ∨ b = 42) : hv_SH (b + 15) = some (.inl 64) := by rcases hb with rfl | rfl <;> rfl
theorem sh_o_0 : hv_SH 0 = some (.inr (10, [some 1, some 3, some 11, some 14, some 20, some 23, some 26, some 42, some 58, some 61, none, none, none, none])) := rfl
theorem sh_o_1 : hv_SH 1 = some (.inr (7, [some 2, none])) := rfl
theorem sh_a_2 : hv_SH 2 = some (.inl 600) := rfl
theorem sh_o_3 : hv_SH 3 = some (.inr (4, [some 4, some 5, some 6, some 7, some 8, some 9, some 10, none, none, none, none, none, none, none])) := rfl
theorem sh_o_4 : hv_SH 4 = some (.inr (8, [some 1, none, none, none, none])) := rfl
theorem sh_a_5 : hv_SH 5 = some (.inl 20) := rfl
theorem sh_a_6 : hv_SH 6 = some (.inl 20) := rfl
theorem sh_a_7 : hv_SH 7 = some (.inl 20) := rfl
theorem sh_a_8 : hv_SH 8 = some (.inl 20) := rfl
theorem sh_a_9 : hv_SH 9 = some (.inl 20) := rfl
theorem sh_a_10 : hv_SH 10 = some (.inl 20) := rfl
theorem sh_o_11 : hv_SH 11 = some (.inr (3, [some 12, some 13, none])) := rfl
theorem sh_a_12 : hv_SH 12 = some (.inl 30) := rfl
theorem sh_a_13 : hv_SH 13 = some (.inl 30) := rfl
theorem sh_o_14 : hv_SH 14 = some (.inr (6, [some 15, some 16, some 17, some 18, some 19, none])) := rfl
theorem sh_a_15 : hv_SH 15 = some (.inl 30) := rfl
theorem sh_a_16 : hv_SH 16 = some (.inl 30) := rfl
theorem sh_a_17 : hv_SH 17 = some (.inl 30) := rfl
theorem sh_a_18 : hv_SH 18 = some (.inl 30) := rfl
theorem sh_a_19 : hv_SH 19 = some (.inl 30) := rfl
theorem sh_o_20 : hv_SH 20 = some (.inr (0, [some 21, some 22])) := rfl
theorem sh_a_21 : hv_SH 21 = some (.inl 720) := rfl
theorem sh_a_22 : hv_SH 22 = some (.inl 30) := rfl
theorem sh_o_23 : hv_SH 23 = some (.inr (0, [some 24, some 25])) := rfl
theorem sh_a_24 : hv_SH 24 = some (.inl 720) := rfl
theorem sh_a_25 : hv_SH 25 = some (.inl 30) := rfl
theorem sh_o_26 : hv_SH 26 = some (.inr (2, [none, some 27, some 37, some 38, some 39, some 40, some 41, none, none, none])) := rfl
theorem sh_o_27 : hv_SH 27 = some (.inr (1, [some 28, some 29, some 30, some 31, some 32, some 33, some 34, some 35, some 36, none, none])) := rfl
theorem sh_a_28 : hv_SH 28 = some (.inl 864) := rfl
theorem sh_a_29 : hv_SH 29 = some (.inl 864) := rfl
theorem sh_a_30 : hv_SH 30 = some (.inl 864) := rfl
theorem sh_a_31 : hv_SH 31 = some (.inl 864) := rfl
theorem sh_a_32 : hv_SH 32 = some (.inl 864) := rfl
theorem sh_a_33 : hv_SH 33 = some (.inl 864) := rfl
theorem sh_a_34 : hv_SH 34 = some (.inl 864) := rfl
theorem sh_a_35 : hv_SH 35 = some (.inl 2592) := rfl
theorem sh_a_36 : hv_SH 36 = some (.inl 2592) := rfl
theorem sh_a_37 : hv_SH 37 = some (.inl 30) := rfl
theorem sh_a_38 : hv_SH 38 = some (.inl 30) := rfl
theorem sh_a_39 : hv_SH 39 = some (.inl 30) := rfl
theorem sh_a_40 : hv_SH 40 = some (.inl 30) := rfl
theorem sh_a_41 : hv_SH 41 = some (.inl 64) := rfl
theorem sh_o_42 : hv_SH 42 = some (.inr (2, [none, some 43, some 53, some 54, some 55, some 56, some 57, none, none, none])) := rfl
theorem sh_o_43 : hv_SH 43 = some (.inr (1, [some 44, some 45, some 46, some 47, some 48, some 49, some 50, some 51, some 52, none, none])) := rfl
theorem sh_a_44 : hv_SH 44 = some (.inl 864) := rfl
theorem sh_a_45 : hv_SH 45 = some (.inl 864) := rfl
theorem sh_a_46 : hv_SH 46 = some (.inl 864) := rfl
theorem sh_a_47 : hv_SH 47 = some (.inl 864) := rfl
theorem sh_a_48 : hv_SH 48 = some (.inl 864) := rfl
theorem sh_a_49 : hv_SH 49 = some (.inl 864) := rfl
theorem sh_a_50 : hv_SH 50 = some (.inl 864) := rfl
theorem sh_a_51 : hv_SH 51 = some (.inl 2592) := rfl
theorem sh_a_52 : hv_SH 52 = some (.inl 2592) := rfl
theorem sh_a_53 : hv_SH 53 = some (.inl 30) := rfl
theorem sh_a_54 : hv_SH 54 = some (.inl 30) := rfl
theorem sh_a_55 : hv_SH 55 = some (.inl 30) := rfl
theorem sh_a_56 : hv_SH 56 = some (.inl 30) := rfl
theorem sh_a_57 : hv_SH 57 = some (.inl 64) := rfl
theorem sh_o_58 : hv_SH 58 = some (.inr (9, [some 59, some 60, none, none])) := rfl
theorem sh_a_59 : hv_SH 59 = some (.inl 864) := rfl
theorem sh_a_60 : hv_SH 60 = some (.inl 864) := rfl
theorem sh_o_61 : hv_SH 61 = some (.inr (5, [some 11, some 62, some 63, some 64, none, none, none, none, none])) := rfl
theorem sh_a_62 : hv_SH 62 = some (.inl 8) := rfl
theorem sh_a_63 : hv_SH 63 = some (.inl 24) := rfl
theorem sh_a_64 : hv_SH 64 = some (.inl 24) := rfl
theorem sh_o_65 : hv_SH 65 = some (.inr (11, [some 66, some 67, some 68, none, none, none, none, none, none, none, none, some 69, some 70, none, some 71, some 72, some 73, some 74, none, some 75, some 76, none, none, some 77, some 78, some 79, some 80, some 81, some 82, some 83, some 84, some 85])) := rfl
theorem sh_a_66 : hv_SH 66 = some (.inl 216) := rfl
theorem sh_a_67 : hv_SH 67 = some (.inl 216) := rfl
theorem sh_a_68 : hv_SH 68 = some (.inl 600) := rfl
theorem sh_a_69 : hv_SH 69 = some (.inl 8000) := rfl
theorem sh_a_70 : hv_SH 70 = some (.inl 8000) := rfl
theorem sh_a_71 : hv_SH 71 = some (.inl 8000) := rfl
theorem sh_a_72 : hv_SH 72 = some (.inl 8000) := rfl
theorem sh_a_73 : hv_SH 73 = some (.inl 8000) := rfl
theorem sh_a_74 : hv_SH 74 = some (.inl 8000) := rfl
theorem sh_a_75 : hv_SH 75 = some (.inl 40000) := rfl
theorem sh_a_76 : hv_SH 76 = some (.inl 40000) := rfl
theorem sh_a_77 : hv_SH 77 = some (.inl 30) := rfl
theorem sh_a_78 : hv_SH 78 = some (.inl 30) := rfl
theorem sh_a_79 : hv_SH 79 = some (.inl 30) := rfl
theorem sh_a_80 : hv_SH 80 = some (.inl 54) := rfl
theorem sh_a_81 : hv_SH 81 = some (.inl 8000) := rfl
theorem sh_a_82 : hv_SH 82 = some (.inl 8000) := rfl
theorem sh_a_83 : hv_SH 83 = some (.inl 8) := rfl
theorem sh_a_84 : hv_SH 84 = some (.inl 54) := rfl
theorem sh_a_85 : hv_SH 85 = some (.inl 54) := rfl
theorem hv_h2c {b : Nat} (hb : b = 26 ∨ b = 42) : b + 1 = 27 ∨ b + 1 = 43 := by omega
