theorem cls_0 : CLS 0 RX0 TX0 5 tyX0 := ⟨rfl, gw_list [198, 200, 202, 204, 206] (by decide +kernel) (by decide +kernel), tyX0_ok, nmX0, by decide, rfl⟩
theorem cq_0 : 0 < 11 ∧ vwCl[0]? = some (RX0, TX0, 5) ∧ ((RX0, TX0, 5) : vw_C).1 = RX0 := ⟨by decide, rfl, rfl⟩
theorem fi_0_0 : 0 < 5 ∧ fk 0 0 = 2 := ⟨by decide, rfl⟩
theorem fi_0_1 : 1 < 5 ∧ fk 0 1 = 2 := ⟨by decide, rfl⟩
theorem fi_0_2 : 2 < 5 ∧ fk 0 2 = 2 := ⟨by decide, rfl⟩
theorem fi_0_3 : 3 < 5 ∧ fk 0 3 = 0 := ⟨by decide, rfl⟩
theorem fp_0_3 : 3 < 5 ∧ fk 0 3 = 0 ∧ tyX0 3 = .int ∧ (TX0 3).2.2.2 = false := ⟨by decide, rfl, rfl, rfl⟩
theorem fi_0_4 : 4 < 5 ∧ fk 0 4 = 0 := ⟨by decide, rfl⟩
theorem fp_0_4 : 4 < 5 ∧ fk 0 4 = 0 ∧ tyX0 4 = .boolean ∧ (TX0 4).2.2.2 = false := ⟨by decide, rfl, rfl, rfl⟩
theorem cls_1 : CLS 1 RX1 TX1 7 tyX1 := ⟨rfl, gw_list [174, 176, 178, 180, 182, 184, 186] (by decide +kernel) (by decide +kernel), tyX1_ok, nmX1, by decide, rfl⟩
theorem cq_1 : 1 < 11 ∧ vwCl[1]? = some (RX1, TX1, 7) ∧ ((RX1, TX1, 7) : vw_C).1 = RX1 := ⟨by decide, rfl, rfl⟩
theorem fi_1_0 : 0 < 7 ∧ fk 1 0 = 2 := ⟨by decide, rfl⟩
theorem fi_1_1 : 1 < 7 ∧ fk 1 1 = 2 := ⟨by decide, rfl⟩
theorem fi_1_2 : 2 < 7 ∧ fk 1 2 = 2 := ⟨by decide, rfl⟩
theorem fi_1_3 : 3 < 7 ∧ fk 1 3 = 0 := ⟨by decide, rfl⟩
theorem fp_1_3 : 3 < 7 ∧ fk 1 3 = 0 ∧ tyX1 3 = .int ∧ (TX1 3).2.2.2 = false := ⟨by decide, rfl, rfl, rfl⟩
theorem fi_1_4 : 4 < 7 ∧ fk 1 4 = 0 := ⟨by decide, rfl⟩
theorem fp_1_4 : 4 < 7 ∧ fk 1 4 = 0 ∧ tyX1 4 = .int ∧ (TX1 4).2.2.2 = false := ⟨by decide, rfl, rfl, rfl⟩
theorem fi_1_5 : 5 < 7 ∧ fk 1 5 = 0 := ⟨by decide, rfl⟩
theorem fp_1_5 : 5 < 7 ∧ fk 1 5 = 0 ∧ tyX1 5 = .boolean ∧ (TX1 5).2.2.2 = false := ⟨by decide, rfl, rfl, rfl⟩
theorem fi_1_6 : 6 < 7 ∧ fk 1 6 = 0 := ⟨by decide, rfl⟩
theorem fp_1_6 : 6 < 7 ∧ fk 1 6 = 0 ∧ tyX1 6 = .boolean ∧ (TX1 6).2.2.2 = false := ⟨by decide, rfl, rfl, rfl⟩
theorem cls_2 : CLS 2 RX3 TX3 5 tyX3 := ⟨rfl, gw_list [139, 141, 143, 145, 147] (by decide +kernel) (by decide +kernel), tyX3_ok, nmX3, by decide, rfl⟩
theorem cq_2 : 2 < 11 ∧ vwCl[2]? = some (RX3, TX3, 5) ∧ ((RX3, TX3, 5) : vw_C).1 = RX3 := ⟨by decide, rfl, rfl⟩
theorem fi_2_0 : 0 < 5 ∧ fk 2 0 = 2 := ⟨by decide, rfl⟩
theorem fi_2_1 : 1 < 5 ∧ fk 2 1 = 2 := ⟨by decide, rfl⟩
theorem fi_2_2 : 2 < 5 ∧ fk 2 2 = 2 := ⟨by decide, rfl⟩
theorem fi_2_3 : 3 < 5 ∧ fk 2 3 = 0 := ⟨by decide, rfl⟩
theorem fp_2_3 : 3 < 5 ∧ fk 2 3 = 0 ∧ tyX3 3 = .int ∧ (TX3 3).2.2.2 = false := ⟨by decide, rfl, rfl, rfl⟩
theorem fi_2_4 : 4 < 5 ∧ fk 2 4 = 0 := ⟨by decide, rfl⟩
theorem fp_2_4 : 4 < 5 ∧ fk 2 4 = 0 ∧ tyX3 4 = .int ∧ (TX3 4).2.2.2 = false := ⟨by decide, rfl, rfl, rfl⟩
theorem cls_3 : CLS 3 RX4 TX4 6 tyX4 := ⟨rfl, gw_list [306, 308, 310, 312, 314, 316] (by decide +kernel) (by decide +kernel), tyX4_ok, nmX4, by decide, rfl⟩
theorem cq_3 : 3 < 11 ∧ vwCl[3]? = some (RX4, TX4, 6) ∧ ((RX4, TX4, 6) : vw_C).1 = RX4 := ⟨by decide, rfl, rfl⟩
theorem fi_3_0 : 0 < 6 ∧ fk 3 0 = 2 := ⟨by decide, rfl⟩
theorem fi_3_1 : 1 < 6 ∧ fk 3 1 = 2 := ⟨by decide, rfl⟩
theorem fi_3_2 : 2 < 6 ∧ fk 3 2 = 0 := ⟨by decide, rfl⟩
theorem fp_3_2 : 2 < 6 ∧ fk 3 2 = 0 ∧ tyX4 2 = .int ∧ (TX4 2).2.2.2 = false := ⟨by decide, rfl, rfl, rfl⟩
theorem fi_3_3 : 3 < 6 ∧ fk 3 3 = 0 := ⟨by decide, rfl⟩
theorem fp_3_3 : 3 < 6 ∧ fk 3 3 = 0 ∧ tyX4 3 = .int ∧ (TX4 3).2.2.2 = false := ⟨by decide, rfl, rfl, rfl⟩
theorem fi_3_4 : 4 < 6 ∧ fk 3 4 = 1 := ⟨by decide, rfl⟩
theorem fp_3_4 : 4 < 6 ∧ fk 3 4 = 1 ∧ tyX4 4 = .long ∧ (TX4 4).2.2.2 = false := ⟨by decide, rfl, rfl, rfl⟩
theorem fi_3_5 : 5 < 6 ∧ fk 3 5 = 1 := ⟨by decide, rfl⟩
theorem fp_3_5 : 5 < 6 ∧ fk 3 5 = 1 ∧ tyX4 5 = .long ∧ (TX4 5).2.2.2 = false := ⟨by decide, rfl, rfl, rfl⟩
theorem cls_4 : CLS 4 RX5 TX5 10 tyX5 := ⟨rfl, gw_list [243, 245, 247, 249, 251, 253, 255, 257, 259, 261] (by decide +kernel) (by decide +kernel), tyX5_ok, nmX5, by decide, rfl⟩
theorem cq_4 : 4 < 11 ∧ vwCl[4]? = some (RX5, TX5, 10) ∧ ((RX5, TX5, 10) : vw_C).1 = RX5 := ⟨by decide, rfl, rfl⟩
theorem fi_4_0 : 0 < 10 ∧ fk 4 0 = 2 := ⟨by decide, rfl⟩
theorem fi_4_1 : 1 < 10 ∧ fk 4 1 = 2 := ⟨by decide, rfl⟩
theorem fi_4_2 : 2 < 10 ∧ fk 4 2 = 2 := ⟨by decide, rfl⟩
theorem fi_4_3 : 3 < 10 ∧ fk 4 3 = 0 := ⟨by decide, rfl⟩
theorem fp_4_3 : 3 < 10 ∧ fk 4 3 = 0 ∧ tyX5 3 = .int ∧ (TX5 3).2.2.2 = false := ⟨by decide, rfl, rfl, rfl⟩
theorem fi_4_4 : 4 < 10 ∧ fk 4 4 = 0 := ⟨by decide, rfl⟩
theorem fp_4_4 : 4 < 10 ∧ fk 4 4 = 0 ∧ tyX5 4 = .int ∧ (TX5 4).2.2.2 = false := ⟨by decide, rfl, rfl, rfl⟩
theorem fi_4_5 : 5 < 10 ∧ fk 4 5 = 0 := ⟨by decide, rfl⟩
theorem fp_4_5 : 5 < 10 ∧ fk 4 5 = 0 ∧ tyX5 5 = .int ∧ (TX5 5).2.2.2 = false := ⟨by decide, rfl, rfl, rfl⟩
theorem fi_4_6 : 6 < 10 ∧ fk 4 6 = 0 := ⟨by decide, rfl⟩
theorem fp_4_6 : 6 < 10 ∧ fk 4 6 = 0 ∧ tyX5 6 = .int ∧ (TX5 6).2.2.2 = false := ⟨by decide, rfl, rfl, rfl⟩
theorem fi_4_7 : 7 < 10 ∧ fk 4 7 = 0 := ⟨by decide, rfl⟩
theorem fp_4_7 : 7 < 10 ∧ fk 4 7 = 0 ∧ tyX5 7 = .int ∧ (TX5 7).2.2.2 = false := ⟨by decide, rfl, rfl, rfl⟩
theorem fi_4_8 : 8 < 10 ∧ fk 4 8 = 0 := ⟨by decide, rfl⟩
theorem fp_4_8 : 8 < 10 ∧ fk 4 8 = 0 ∧ tyX5 8 = .int ∧ (TX5 8).2.2.2 = false := ⟨by decide, rfl, rfl, rfl⟩
theorem fi_4_9 : 9 < 10 ∧ fk 4 9 = 0 := ⟨by decide, rfl⟩
theorem fp_4_9 : 9 < 10 ∧ fk 4 9 = 0 ∧ tyX5 9 = .int ∧ (TX5 9).2.2.2 = false := ⟨by decide, rfl, rfl, rfl⟩
theorem cls_5 : CLS 5 RX6 TX6 0 tyX6 := ⟨rfl, gw_list [] (by decide +kernel) (by decide +kernel), tyX6_ok, nmX6, by decide, rfl⟩
theorem cq_5 : 5 < 11 ∧ vwCl[5]? = some (RX6, TX6, 0) ∧ ((RX6, TX6, 0) : vw_C).1 = RX6 := ⟨by decide, rfl, rfl⟩
theorem cls_6 : CLS 6 RX7 TX7 2 tyX7 := ⟨rfl, gw_list [100, 102] (by decide +kernel) (by decide +kernel), tyX7_ok, nmX7, by decide, rfl⟩
theorem cq_6 : 6 < 11 ∧ vwCl[6]? = some (RX7, TX7, 2) ∧ ((RX7, TX7, 2) : vw_C).1 = RX7 := ⟨by decide, rfl, rfl⟩
theorem fi_6_0 : 0 < 2 ∧ fk 6 0 = 2 := ⟨by decide, rfl⟩
theorem fi_6_1 : 1 < 2 ∧ fk 6 1 = 0 := ⟨by decide, rfl⟩
theorem fp_6_1 : 1 < 2 ∧ fk 6 1 = 0 ∧ tyX7 1 = .int ∧ (TX7 1).2.2.2 = false := ⟨by decide, rfl, rfl, rfl⟩
theorem cls_7 : CLS 7 RX8 TX8 5 tyX8 := ⟨rfl, gw_list [279, 281, 283, 285, 287] (by decide +kernel) (by decide +kernel), tyX8_ok, nmX8, by decide, rfl⟩
theorem cq_7 : 7 < 11 ∧ vwCl[7]? = some (RX8, TX8, 5) ∧ ((RX8, TX8, 5) : vw_C).1 = RX8 := ⟨by decide, rfl, rfl⟩
theorem fi_7_0 : 0 < 5 ∧ fk 7 0 = 2 := ⟨by decide, rfl⟩
theorem fi_7_1 : 1 < 5 ∧ fk 7 1 = 2 := ⟨by decide, rfl⟩
theorem fi_7_2 : 2 < 5 ∧ fk 7 2 = 2 := ⟨by decide, rfl⟩
theorem fi_7_3 : 3 < 5 ∧ fk 7 3 = 0 := ⟨by decide, rfl⟩
theorem fp_7_3 : 3 < 5 ∧ fk 7 3 = 0 ∧ tyX8 3 = .int ∧ (TX8 3).2.2.2 = false := ⟨by decide, rfl, rfl, rfl⟩
theorem fi_7_4 : 4 < 5 ∧ fk 7 4 = 0 := ⟨by decide, rfl⟩
theorem fp_7_4 : 4 < 5 ∧ fk 7 4 = 0 ∧ tyX8 4 = .int ∧ (TX8 4).2.2.2 = false := ⟨by decide, rfl, rfl, rfl⟩
theorem cls_8 : CLS 8 RX9 TX9 2 tyX9 := ⟨rfl, gw_list [116, 118] (by decide +kernel) (by decide +kernel), tyX9_ok, nmX9, by decide, rfl⟩
theorem cq_8 : 8 < 11 ∧ vwCl[8]? = some (RX9, TX9, 2) ∧ ((RX9, TX9, 2) : vw_C).1 = RX9 := ⟨by decide, rfl, rfl⟩
theorem fi_8_0 : 0 < 2 ∧ fk 8 0 = 2 := ⟨by decide, rfl⟩
theorem fi_8_1 : 1 < 2 ∧ fk 8 1 = 0 := ⟨by decide, rfl⟩
theorem fp_8_1 : 1 < 2 ∧ fk 8 1 = 0 ∧ tyX9 1 = .int ∧ (TX9 1).2.2.2 = false := ⟨by decide, rfl, rfl, rfl⟩
theorem cls_9 : CLS 9 RX10 TX10 17 tyX10 := ⟨rfl, gw_list [336, 338, 340, 342, 344, 346, 348, 350, 352, 354, 356, 358, 360, 362, 364, 366, 368] (by decide +kernel) (by decide +kernel), tyX10_ok, nmX10, by decide, rfl⟩
theorem cq_9 : 9 < 11 ∧ vwCl[9]? = some (RX10, TX10, 17) ∧ ((RX10, TX10, 17) : vw_C).1 = RX10 := ⟨by decide, rfl, rfl⟩
theorem fi_9_0 : 0 < 17 ∧ fk 9 0 = 2 := ⟨by decide, rfl⟩
theorem fi_9_1 : 1 < 17 ∧ fk 9 1 = 2 := ⟨by decide, rfl⟩
theorem fi_9_2 : 2 < 17 ∧ fk 9 2 = 2 := ⟨by decide, rfl⟩
theorem fi_9_3 : 3 < 17 ∧ fk 9 3 = 2 := ⟨by decide, rfl⟩
theorem fi_9_4 : 4 < 17 ∧ fk 9 4 = 2 := ⟨by decide, rfl⟩
theorem fi_9_5 : 5 < 17 ∧ fk 9 5 = 2 := ⟨by decide, rfl⟩
theorem fi_9_6 : 6 < 17 ∧ fk 9 6 = 2 := ⟨by decide, rfl⟩
theorem fi_9_7 : 7 < 17 ∧ fk 9 7 = 2 := ⟨by decide, rfl⟩
theorem fi_9_8 : 8 < 17 ∧ fk 9 8 = 2 := ⟨by decide, rfl⟩
theorem fi_9_9 : 9 < 17 ∧ fk 9 9 = 2 := ⟨by decide, rfl⟩
theorem fi_9_10 : 10 < 17 ∧ fk 9 10 = 2 := ⟨by decide, rfl⟩
theorem fi_9_11 : 11 < 17 ∧ fk 9 11 = 2 := ⟨by decide, rfl⟩
theorem fi_9_12 : 12 < 17 ∧ fk 9 12 = 2 := ⟨by decide, rfl⟩
theorem fi_9_13 : 13 < 17 ∧ fk 9 13 = 0 := ⟨by decide, rfl⟩
theorem fp_9_13 : 13 < 17 ∧ fk 9 13 = 0 ∧ tyX10 13 = .int ∧ (TX10 13).2.2.2 = false := ⟨by decide, rfl, rfl, rfl⟩
theorem fi_9_14 : 14 < 17 ∧ fk 9 14 = 0 := ⟨by decide, rfl⟩
theorem fp_9_14 : 14 < 17 ∧ fk 9 14 = 0 ∧ tyX10 14 = .int ∧ (TX10 14).2.2.2 = false := ⟨by decide, rfl, rfl, rfl⟩
theorem fi_9_15 : 15 < 17 ∧ fk 9 15 = 1 := ⟨by decide, rfl⟩
theorem fp_9_15 : 15 < 17 ∧ fk 9 15 = 1 ∧ tyX10 15 = .long ∧ (TX10 15).2.2.2 = false := ⟨by decide, rfl, rfl, rfl⟩
theorem fi_9_16 : 16 < 17 ∧ fk 9 16 = 1 := ⟨by decide, rfl⟩
theorem fp_9_16 : 16 < 17 ∧ fk 9 16 = 1 ∧ tyX10 16 = .long ∧ (TX10 16).2.2.2 = false := ⟨by decide, rfl, rfl, rfl⟩
theorem cls_10 : CLS 10 RX11 TX11 38 tyX11 := ⟨rfl, gw_list [1064, 1066, 1068, 1070, 1072, 1074, 1076, 1078, 1080, 1082, 1084, 1086, 1088, 1090, 1092, 1094, 1096, 1098, 1100, 1102, 1104, 1106, 1108, 1110, 1112, 1114, 1116, 1118, 1120, 1122, 1124, 1126, 1128, 1130, 1132, 1134, 1136, 1138] (by decide +kernel) (by decide +kernel), tyX11_ok, nmX11, by decide, rfl⟩
theorem cq_10 : 10 < 11 ∧ vwCl[10]? = some (RX11, TX11, 38) ∧ ((RX11, TX11, 38) : vw_C).1 = RX11 := ⟨by decide, rfl, rfl⟩
theorem fi_10_0 : 0 < 38 ∧ fk 10 0 = 0 := ⟨by decide, rfl⟩
theorem fp_10_0 : 0 < 38 ∧ fk 10 0 = 0 ∧ tyX11 0 = .int ∧ (TX11 0).2.2.2 = false := ⟨by decide, rfl, rfl, rfl⟩
theorem fi_10_1 : 1 < 38 ∧ fk 10 1 = 2 := ⟨by decide, rfl⟩
theorem fi_10_2 : 2 < 38 ∧ fk 10 2 = 0 := ⟨by decide, rfl⟩
theorem fp_10_2 : 2 < 38 ∧ fk 10 2 = 0 ∧ tyX11 2 = .int ∧ (TX11 2).2.2.2 = false := ⟨by decide, rfl, rfl, rfl⟩
theorem fi_10_3 : 3 < 38 ∧ fk 10 3 = 1 := ⟨by decide, rfl⟩
theorem fp_10_3 : 3 < 38 ∧ fk 10 3 = 1 ∧ tyX11 3 = .long ∧ (TX11 3).2.2.2 = false := ⟨by decide, rfl, rfl, rfl⟩
theorem fi_10_4 : 4 < 38 ∧ fk 10 4 = 1 := ⟨by decide, rfl⟩
theorem fp_10_4 : 4 < 38 ∧ fk 10 4 = 1 ∧ tyX11 4 = .long ∧ (TX11 4).2.2.2 = false := ⟨by decide, rfl, rfl, rfl⟩
theorem fi_10_5 : 5 < 38 ∧ fk 10 5 = 2 := ⟨by decide, rfl⟩
theorem fi_10_6 : 6 < 38 ∧ fk 10 6 = 2 := ⟨by decide, rfl⟩
theorem fi_10_7 : 7 < 38 ∧ fk 10 7 = 2 := ⟨by decide, rfl⟩
theorem fi_10_8 : 8 < 38 ∧ fk 10 8 = 2 := ⟨by decide, rfl⟩
theorem fi_10_9 : 9 < 38 ∧ fk 10 9 = 2 := ⟨by decide, rfl⟩
theorem fi_10_10 : 10 < 38 ∧ fk 10 10 = 0 := ⟨by decide, rfl⟩
theorem fp_10_10 : 10 < 38 ∧ fk 10 10 = 0 ∧ tyX11 10 = .int ∧ (TX11 10).2.2.2 = false := ⟨by decide, rfl, rfl, rfl⟩
theorem fi_10_11 : 11 < 38 ∧ fk 10 11 = 0 := ⟨by decide, rfl⟩
theorem fp_10_11 : 11 < 38 ∧ fk 10 11 = 0 ∧ tyX11 11 = .int ∧ (TX11 11).2.2.2 = false := ⟨by decide, rfl, rfl, rfl⟩
theorem fi_10_12 : 12 < 38 ∧ fk 10 12 = 2 := ⟨by decide, rfl⟩
theorem fi_10_13 : 13 < 38 ∧ fk 10 13 = 2 := ⟨by decide, rfl⟩
theorem fi_10_14 : 14 < 38 ∧ fk 10 14 = 2 := ⟨by decide, rfl⟩
theorem fi_10_15 : 15 < 38 ∧ fk 10 15 = 0 := ⟨by decide, rfl⟩
theorem fp_10_15 : 15 < 38 ∧ fk 10 15 = 0 ∧ tyX11 15 = .int ∧ (TX11 15).2.2.2 = false := ⟨by decide, rfl, rfl, rfl⟩
theorem fi_10_16 : 16 < 38 ∧ fk 10 16 = 0 := ⟨by decide, rfl⟩
theorem fp_10_16 : 16 < 38 ∧ fk 10 16 = 0 ∧ tyX11 16 = .int ∧ (TX11 16).2.2.2 = false := ⟨by decide, rfl, rfl, rfl⟩
theorem fi_10_17 : 17 < 38 ∧ fk 10 17 = 0 := ⟨by decide, rfl⟩
theorem fp_10_17 : 17 < 38 ∧ fk 10 17 = 0 ∧ tyX11 17 = .int ∧ (TX11 17).2.2.2 = false := ⟨by decide, rfl, rfl, rfl⟩
theorem fi_10_18 : 18 < 38 ∧ fk 10 18 = 2 := ⟨by decide, rfl⟩
theorem fi_10_19 : 19 < 38 ∧ fk 10 19 = 2 := ⟨by decide, rfl⟩
theorem fi_10_20 : 20 < 38 ∧ fk 10 20 = 2 := ⟨by decide, rfl⟩
theorem fi_10_21 : 21 < 38 ∧ fk 10 21 = 2 := ⟨by decide, rfl⟩
theorem fi_10_22 : 22 < 38 ∧ fk 10 22 = 0 := ⟨by decide, rfl⟩
theorem fp_10_22 : 22 < 38 ∧ fk 10 22 = 0 ∧ tyX11 22 = .int ∧ (TX11 22).2.2.2 = false := ⟨by decide, rfl, rfl, rfl⟩
theorem fi_10_23 : 23 < 38 ∧ fk 10 23 = 2 := ⟨by decide, rfl⟩
theorem fi_10_24 : 24 < 38 ∧ fk 10 24 = 2 := ⟨by decide, rfl⟩
theorem fi_10_25 : 25 < 38 ∧ fk 10 25 = 2 := ⟨by decide, rfl⟩
theorem fi_10_26 : 26 < 38 ∧ fk 10 26 = 2 := ⟨by decide, rfl⟩
theorem fi_10_27 : 27 < 38 ∧ fk 10 27 = 2 := ⟨by decide, rfl⟩
theorem fi_10_28 : 28 < 38 ∧ fk 10 28 = 2 := ⟨by decide, rfl⟩
theorem fi_10_29 : 29 < 38 ∧ fk 10 29 = 2 := ⟨by decide, rfl⟩
theorem fi_10_30 : 30 < 38 ∧ fk 10 30 = 2 := ⟨by decide, rfl⟩
theorem fi_10_31 : 31 < 38 ∧ fk 10 31 = 0 := ⟨by decide, rfl⟩
theorem fp_10_31 : 31 < 38 ∧ fk 10 31 = 0 ∧ tyX11 31 = .boolean ∧ (TX11 31).2.2.2 = false := ⟨by decide, rfl, rfl, rfl⟩
theorem fi_10_32 : 32 < 38 ∧ fk 10 32 = 0 := ⟨by decide, rfl⟩
theorem fp_10_32 : 32 < 38 ∧ fk 10 32 = 0 ∧ tyX11 32 = .int ∧ (TX11 32).2.2.2 = false := ⟨by decide, rfl, rfl, rfl⟩
theorem fi_10_33 : 33 < 38 ∧ fk 10 33 = 0 := ⟨by decide, rfl⟩
theorem fp_10_33 : 33 < 38 ∧ fk 10 33 = 0 ∧ tyX11 33 = .int ∧ (TX11 33).2.2.2 = false := ⟨by decide, rfl, rfl, rfl⟩
theorem fi_10_34 : 34 < 38 ∧ fk 10 34 = 0 := ⟨by decide, rfl⟩
theorem fp_10_34 : 34 < 38 ∧ fk 10 34 = 0 ∧ tyX11 34 = .int ∧ (TX11 34).2.2.2 = false := ⟨by decide, rfl, rfl, rfl⟩
theorem fi_10_35 : 35 < 38 ∧ fk 10 35 = 0 := ⟨by decide, rfl⟩
theorem fp_10_35 : 35 < 38 ∧ fk 10 35 = 0 ∧ tyX11 35 = .int ∧ (TX11 35).2.2.2 = false := ⟨by decide, rfl, rfl, rfl⟩
theorem fi_10_36 : 36 < 38 ∧ fk 10 36 = 0 := ⟨by decide, rfl⟩
theorem fp_10_36 : 36 < 38 ∧ fk 10 36 = 0 ∧ tyX11 36 = .int ∧ (TX11 36).2.2.2 = false := ⟨by decide, rfl, rfl, rfl⟩
theorem fi_10_37 : 37 < 38 ∧ fk 10 37 = 1 := ⟨by decide, rfl⟩
theorem fp_10_37 : 37 < 38 ∧ fk 10 37 = 1 ∧ tyX11 37 = .long ∧ (TX11 37).2.2.2 = false := ⟨by decide, rfl, rfl, rfl⟩
abbrev iX10_init : MI := (yX10_init, cX10_init, 2, none)
theorem cm_X10_init : CM iX10_init 0 := ⟨gw_82, gw_64, gw_83, ⟨by decide, by decide, by decide +kernel⟩, by decide, rfl, rfl⟩
abbrev iX10_row : MI := (yX10_row, cX10_row, 3, some .int)
theorem vm_X10_row : VM iX10_row 2 := ⟨gw_372, gw_373, gw_64, gw_374, ⟨by decide, by decide, by decide +kernel⟩, by decide⟩
abbrev iX10_lay : MI := (yX10_lay, cX10_lay, 6, some .int)
theorem vm_X10_lay : VM iX10_lay 3 := ⟨gw_387, gw_388, gw_64, gw_389, ⟨by decide, by decide, by decide +kernel⟩, by decide⟩
abbrev iX10_at : MI := (yX10_at, cX10_at, 4, some .int)
theorem vm_X10_at : VM iX10_at 2 := ⟨gw_411, gw_412, gw_64, gw_413, ⟨by decide, by decide, by decide +kernel⟩, by decide⟩
abbrev iX10_tear : MI := (yX10_tear, cX10_tear, 2, some .int)
theorem vm_X10_tear : VM iX10_tear 1 := ⟨gw_415, gw_416, gw_64, gw_417, ⟨by decide, by decide, by decide +kernel⟩, by decide⟩
abbrev iX10_copy : MI := (yX10_copy, cX10_copy, 6, some .int)
theorem vm_X10_copy : VM iX10_copy 5 := ⟨gw_424, gw_425, gw_64, gw_426, ⟨by decide, by decide, by decide +kernel⟩, by decide⟩
abbrev iX10_mean : MI := (yX10_mean, cX10_mean, 3, some .int)
theorem vm_X10_mean : VM iX10_mean 1 := ⟨gw_435, gw_436, gw_64, gw_437, ⟨by decide, by decide, by decide +kernel⟩, by decide⟩
abbrev iX10_text : MI := (yX10_text, cX10_text, 3, some .int)
theorem vm_X10_text : VM iX10_text 2 := ⟨gw_443, gw_444, gw_64, gw_445, ⟨by decide, by decide, by decide +kernel⟩, by decide⟩
abbrev iX10_put : MI := (yX10_put, cX10_put, 6, some .int)
theorem vm_X10_put : VM iX10_put 3 := ⟨gw_454, gw_455, gw_64, gw_456, ⟨by decide, by decide, by decide +kernel⟩, by decide⟩
abbrev iX10_fault : MI := (yX10_fault, cX10_fault, 2, some .int)
theorem vm_X10_fault : VM iX10_fault 1 := ⟨gw_475, gw_476, gw_64, gw_477, ⟨by decide, by decide, by decide +kernel⟩, by decide⟩
abbrev iX10_village : MI := (yX10_village, cX10_village, 3, some .int)
theorem vm_X10_village : VM iX10_village 1 := ⟨gw_540, gw_541, gw_64, gw_542, ⟨by decide, by decide, by decide +kernel⟩, by decide⟩
abbrev iX10_house : MI := (yX10_house, cX10_house, 3, some .int)
theorem vm_X10_house : VM iX10_house 2 := ⟨gw_556, gw_557, gw_64, gw_558, ⟨by decide, by decide, by decide +kernel⟩, by decide⟩
abbrev iX10_wind : MI := (yX10_wind, cX10_wind, 2, some .int)
theorem vm_X10_wind : VM iX10_wind 1 := ⟨gw_597, gw_598, gw_64, gw_599, ⟨by decide, by decide, by decide +kernel⟩, by decide⟩
abbrev iX10_mark : MI := (yX10_mark, cX10_mark, 3, some .int)
theorem vm_X10_mark : VM iX10_mark 2 := ⟨gw_607, gw_608, gw_64, gw_609, ⟨by decide, by decide, by decide +kernel⟩, by decide⟩
abbrev iX10_stack : MI := (yX10_stack, cX10_stack, 4, some .int)
theorem vm_X10_stack : VM iX10_stack 2 := ⟨gw_632, gw_633, gw_64, gw_634, ⟨by decide, by decide, by decide +kernel⟩, by decide⟩
abbrev iX10_strike : MI := (yX10_strike, cX10_strike, 2, some .int)
theorem vm_X10_strike : VM iX10_strike 1 := ⟨gw_642, gw_643, gw_64, gw_644, ⟨by decide, by decide, by decide +kernel⟩, by decide⟩
abbrev iX10_carry : MI := (yX10_carry, cX10_carry, 3, some .int)
theorem vm_X10_carry : VM iX10_carry 2 := ⟨gw_685, gw_686, gw_64, gw_687, ⟨by decide, by decide, by decide +kernel⟩, by decide⟩
abbrev iX10_hour : MI := (yX10_hour, cX10_hour, 1, some .int)
theorem vm_X10_hour : VM iX10_hour 0 := ⟨gw_708, gw_709, gw_64, gw_710, ⟨by decide, by decide, by decide +kernel⟩, by decide⟩
abbrev iX10_undo : MI := (yX10_undo, cX10_undo, 2, some .int)
theorem vm_X10_undo : VM iX10_undo 1 := ⟨gw_712, gw_713, gw_64, gw_714, ⟨by decide, by decide, by decide +kernel⟩, by decide⟩
abbrev iX10_keep : MI := (yX10_keep, cX10_keep, 2, some .int)
theorem vm_X10_keep : VM iX10_keep 1 := ⟨gw_720, gw_721, gw_64, gw_722, ⟨by decide, by decide, by decide +kernel⟩, by decide⟩
abbrev iX10_on : MI := (yX10_on, cX10_on, 2, some .int)
theorem vm_X10_on : VM iX10_on 1 := ⟨gw_732, gw_733, gw_64, gw_734, ⟨by decide, by decide, by decide +kernel⟩, by decide⟩
abbrev iX10_fires : MI := (yX10_fires, cX10_fires, 1, some .int)
theorem vm_X10_fires : VM iX10_fires 0 := ⟨gw_736, gw_737, gw_64, gw_738, ⟨by decide, by decide, by decide +kernel⟩, by decide⟩
abbrev iX10_reach : MI := (yX10_reach, cX10_reach, 1, some .int)
theorem vm_X10_reach : VM iX10_reach 0 := ⟨gw_744, gw_745, gw_64, gw_746, ⟨by decide, by decide, by decide +kernel⟩, by decide⟩
abbrev iX10_lasts : MI := (yX10_lasts, cX10_lasts, 2, some .int)
theorem vm_X10_lasts : VM iX10_lasts 1 := ⟨gw_757, gw_758, gw_64, gw_759, ⟨by decide, by decide, by decide +kernel⟩, by decide⟩
abbrev iX10_dark : MI := (yX10_dark, cX10_dark, 3, some .int)
theorem vm_X10_dark : VM iX10_dark 0 := ⟨gw_770, gw_771, gw_64, gw_772, ⟨by decide, by decide, by decide +kernel⟩, by decide⟩
abbrev iX10_worst : MI := (yX10_worst, cX10_worst, 6, some .int)
theorem vm_X10_worst : VM iX10_worst 1 := ⟨gw_775, gw_776, gw_64, gw_777, ⟨by decide, by decide, by decide +kernel⟩, by decide⟩
abbrev iX10_can : MI := (yX10_can, cX10_can, 2, some .int)
theorem vm_X10_can : VM iX10_can 1 := ⟨gw_784, gw_785, gw_64, gw_786, ⟨by decide, by decide, by decide +kernel⟩, by decide⟩
abbrev iX10_plan : MI := (yX10_plan, cX10_plan, 4, some .int)
theorem vm_X10_plan : VM iX10_plan 3 := ⟨gw_834, gw_835, gw_64, gw_836, ⟨by decide, by decide, by decide +kernel⟩, by decide⟩
abbrev iX10_ways : MI := (yX10_ways, cX10_ways, 3, some .int)
theorem vm_X10_ways : VM iX10_ways 2 := ⟨gw_847, gw_848, gw_64, gw_849, ⟨by decide, by decide, by decide +kernel⟩, by decide⟩
abbrev iX10_most : MI := (yX10_most, cX10_most, 3, some .int)
theorem vm_X10_most : VM iX10_most 2 := ⟨gw_858, gw_859, gw_64, gw_860, ⟨by decide, by decide, by decide +kernel⟩, by decide⟩
abbrev iX10_serve : MI := (yX10_serve, cX10_serve, 3, some .int)
theorem vm_X10_serve : VM iX10_serve 2 := ⟨gw_862, gw_863, gw_64, gw_864, ⟨by decide, by decide, by decide +kernel⟩, by decide⟩
abbrev iX10_run : MI := (yX10_run, cX10_run, 6, some .int)
theorem vm_X10_run : VM iX10_run 1 := ⟨gw_866, gw_867, gw_64, gw_868, ⟨by decide, by decide, by decide +kernel⟩, by decide⟩
abbrev iX10_where : MI := (yX10_where, cX10_where, 6, some .int)
theorem vm_X10_where : VM iX10_where 0 := ⟨gw_882, gw_883, gw_64, gw_884, ⟨by decide, by decide, by decide +kernel⟩, by decide⟩
abbrev iX10_smoke : MI := (yX10_smoke, cX10_smoke, 3, some .int)
theorem vm_X10_smoke : VM iX10_smoke 1 := ⟨gw_887, gw_888, gw_64, gw_889, ⟨by decide, by decide, by decide +kernel⟩, by decide⟩
abbrev iX10_hides : MI := (yX10_hides, cX10_hides, 7, some .int)
theorem vm_X10_hides : VM iX10_hides 2 := ⟨gw_914, gw_915, gw_64, gw_916, ⟨by decide, by decide, by decide +kernel⟩, by decide⟩
abbrev iX10_spring : MI := (yX10_spring, cX10_spring, 3, some .int)
theorem vm_X10_spring : VM iX10_spring 2 := ⟨gw_922, gw_923, gw_64, gw_924, ⟨by decide, by decide, by decide +kernel⟩, by decide⟩
abbrev iX10_odds : MI := (yX10_odds, cX10_odds, 5, some .int)
theorem vm_X10_odds : VM iX10_odds 3 := ⟨gw_926, gw_927, gw_64, gw_928, ⟨by decide, by decide, by decide +kernel⟩, by decide⟩
abbrev iX10_lots : MI := (yX10_lots, cX10_lots, 5, some .int)
theorem vm_X10_lots : VM iX10_lots 2 := ⟨gw_949, gw_950, gw_64, gw_951, ⟨by decide, by decide, by decide +kernel⟩, by decide⟩
abbrev iX10_asked : MI := (yX10_asked, cX10_asked, 1, some .int)
theorem vm_X10_asked : VM iX10_asked 0 := ⟨gw_960, gw_961, gw_64, gw_962, ⟨by decide, by decide, by decide +kernel⟩, by decide⟩
abbrev iX10_upper : MI := (yX10_upper, cX10_upper, 1, some .long)
theorem vm_X10_upper : VM iX10_upper 0 := ⟨gw_964, gw_965, gw_64, gw_966, ⟨by decide, by decide, by decide +kernel⟩, by decide⟩
abbrev iX10_lower : MI := (yX10_lower, cX10_lower, 1, some .long)
theorem vm_X10_lower : VM iX10_lower 0 := ⟨gw_968, gw_969, gw_64, gw_970, ⟨by decide, by decide, by decide +kernel⟩, by decide⟩
abbrev iX10_count : MI := (yX10_count, cX10_count, 2, some .int)
theorem vm_X10_count : VM iX10_count 1 := ⟨gw_972, gw_973, gw_64, gw_974, ⟨by decide, by decide, by decide +kernel⟩, by decide⟩
abbrev iX10_finding : MI := (yX10_finding, cX10_finding, 1, some .int)
theorem vm_X10_finding : VM iX10_finding 0 := ⟨gw_997, gw_998, gw_64, gw_999, ⟨by decide, by decide, by decide +kernel⟩, by decide⟩
abbrev iX10_findings : MI := (yX10_findings, cX10_findings, 2, some .int)
theorem vm_X10_findings : VM iX10_findings 1 := ⟨gw_1001, gw_1002, gw_64, gw_1003, ⟨by decide, by decide, by decide +kernel⟩, by decide⟩
abbrev iX10_digest : MI := (yX10_digest, cX10_digest, 5, some .long)
theorem vm_X10_digest : VM iX10_digest 0 := ⟨gw_1005, gw_1006, gw_64, gw_1007, ⟨by decide, by decide, by decide +kernel⟩, by decide⟩
abbrev iX10_isRow : MI := (yX10_isRow, cX10_isRow, 1, some .boolean)
theorem sm_X10_isRow : SM iX10_isRow 1 := ⟨gw_376, gw_64, gw_377, ⟨by decide, by decide, by decide +kernel⟩, by decide⟩
abbrev iX10_isText : MI := (yX10_isText, cX10_isText, 1, some .boolean)
theorem sm_X10_isText : SM iX10_isText 1 := ⟨gw_447, gw_64, gw_448, ⟨by decide, by decide, by decide +kernel⟩, by decide⟩
abbrev iX10_isKeepingPlace : MI := (yX10_isKeepingPlace, cX10_isKeepingPlace, 1, some .boolean)
theorem sm_X10_isKeepingPlace : SM iX10_isKeepingPlace 1 := ⟨gw_724, gw_64, gw_725, ⟨by decide, by decide, by decide +kernel⟩, by decide⟩
abbrev iX10_isAhead : MI := (yX10_isAhead, cX10_isAhead, 1, some .boolean)
theorem sm_X10_isAhead : SM iX10_isAhead 1 := ⟨gw_788, gw_64, gw_789, ⟨by decide, by decide, by decide +kernel⟩, by decide⟩
abbrev iX10_found : MI := (yX10_found, cX10_found, 2, some .int)
theorem vm_X10_found : VM iX10_found 1 := ⟨gw_380, gw_0, gw_64, gw_381, ⟨by decide, by decide, by decide +kernel⟩, by decide⟩
abbrev iX10_tell : MI := (yX10_tell, cX10_tell, 7, none)
theorem vm_X10_tell : VM iX10_tell 2 := ⟨gw_852, gw_10, gw_64, gw_853, ⟨by decide, by decide, by decide +kernel⟩, by decide⟩
abbrev iX10_commonDivisor : MI := (yX10_commonDivisor, cX10_commonDivisor, 11, some .long)
theorem sm_X10_commonDivisor : SM iX10_commonDivisor 2 := ⟨gw_855, gw_64, gw_856, ⟨by decide, by decide, by decide +kernel⟩, by decide⟩
abbrev iX10_factOf : MI := (yX10_factOf, cX10_factOf, 4, some .int)
theorem vm_X10_factOf : VM iX10_factOf 2 := ⟨gw_565, gw_1, gw_64, gw_566, ⟨by decide, by decide, by decide +kernel⟩, by decide⟩
abbrev iX10_markOf : MI := (yX10_markOf, cX10_markOf, 4, some .int)
theorem vm_X10_markOf : VM iX10_markOf 2 := ⟨gw_615, gw_2, gw_64, gw_616, ⟨by decide, by decide, by decide +kernel⟩, by decide⟩
abbrev iX10_countOf : MI := (yX10_countOf, cX10_countOf, 2, some .int)
theorem vm_X10_countOf : VM iX10_countOf 1 := ⟨gw_977, gw_16, gw_64, gw_978, ⟨by decide, by decide, by decide +kernel⟩, by decide⟩
abbrev iX10_rowsThere : MI := (yX10_rowsThere, cX10_rowsThere, 3, some .int)
theorem vm_X10_rowsThere : VM iX10_rowsThere 0 := ⟨gw_986, gw_17, gw_64, gw_987, ⟨by decide, by decide, by decide +kernel⟩, by decide⟩
abbrev iX10_textsThere : MI := (yX10_textsThere, cX10_textsThere, 3, some .int)
theorem vm_X10_textsThere : VM iX10_textsThere 0 := ⟨gw_990, gw_18, gw_64, gw_991, ⟨by decide, by decide, by decide +kernel⟩, by decide⟩
abbrev iX10_keptThere : MI := (yX10_keptThere, cX10_keptThere, 3, some .int)
theorem vm_X10_keptThere : VM iX10_keptThere 0 := ⟨gw_994, gw_19, gw_64, gw_995, ⟨by decide, by decide, by decide +kernel⟩, by decide⟩
abbrev iX10_planInto : MI := (yX10_planInto, cX10_planInto, 4, some .int)
theorem vm_X10_planInto : VM iX10_planInto 1 := ⟨gw_839, gw_9, gw_64, gw_840, ⟨by decide, by decide, by decide +kernel⟩, by decide⟩
abbrev iX10_carryByLot : MI := (yX10_carryByLot, cX10_carryByLot, 4, none)
theorem vm_X10_carryByLot : VM iX10_carryByLot 1 := ⟨gw_957, gw_15, gw_64, gw_958, ⟨by decide, by decide, by decide +kernel⟩, by decide⟩
abbrev iX11_init : MI := (yX11_init, cX11_init, 2, none)
theorem cm_X11_init : CM iX11_init 0 := ⟨gw_1023, gw_74, gw_1024, ⟨by decide, by decide, by decide +kernel⟩, by decide, rfl, rfl⟩
abbrev iX11_in : MI := (yX11_in, cX11_in, 3, some .boolean)
theorem sm_X11_in : SM iX11_in 3 := ⟨gw_1151, gw_74, gw_1152, ⟨by decide, by decide, by decide +kernel⟩, by decide⟩
abbrev iX11_has : MI := (yX11_has, cX11_has, 2, some .boolean)
theorem sm_X11_has : SM iX11_has 2 := ⟨gw_1337, gw_74, gw_1338, ⟨by decide, by decide, by decide +kernel⟩, by decide⟩
abbrev iX11_bits : MI := (yX11_bits, cX11_bits, 3, some .int)
theorem sm_X11_bits : SM iX11_bits 1 := ⟨gw_1326, gw_74, gw_1327, ⟨by decide, by decide, by decide +kernel⟩, by decide⟩
abbrev iX11_size : MI := (yX11_size, cX11_size, 1, some .int)
theorem sm_X11_size : SM iX11_size 1 := ⟨gw_1311, gw_74, gw_1312, ⟨by decide, by decide, by decide +kernel⟩, by decide⟩
abbrev iX11_meets : MI := (yX11_meets, cX11_meets, 2, some .int)
theorem vm_X11_meets : VM iX11_meets 1 := ⟨gw_1174, gw_20, gw_74, gw_1175, ⟨by decide, by decide, by decide +kernel⟩, by decide⟩
abbrev iX11_finding : MI := (yX11_finding, cX11_finding, 1, some .int)
theorem vm_X11_finding : VM iX11_finding 0 := ⟨gw_1143, gw_1144, gw_74, gw_1145, ⟨by decide, by decide, by decide +kernel⟩, by decide⟩
abbrev iX11_findings : MI := (yX11_findings, cX11_findings, 2, some .int)
theorem vm_X11_findings : VM iX11_findings 1 := ⟨gw_1147, gw_1148, gw_74, gw_1149, ⟨by decide, by decide, by decide +kernel⟩, by decide⟩
abbrev iX11_tells : MI := (yX11_tells, cX11_tells, 3, some .int)
theorem vm_X11_tells : VM iX11_tells 2 := ⟨gw_1186, gw_22, gw_74, gw_1187, ⟨by decide, by decide, by decide +kernel⟩, by decide⟩
abbrev iX11_asked : MI := (yX11_asked, cX11_asked, 1, some .int)
theorem vm_X11_asked : VM iX11_asked 0 := ⟨gw_1154, gw_1155, gw_74, gw_1156, ⟨by decide, by decide, by decide +kernel⟩, by decide⟩
abbrev iX11_fraction : MI := (yX11_fraction, cX11_fraction, 11, some .int)
theorem vm_X11_fraction : VM iX11_fraction 2 := ⟨gw_1436, gw_54, gw_74, gw_1437, ⟨by decide, by decide, by decide +kernel⟩, by decide⟩
abbrev iX11_upper : MI := (yX11_upper, cX11_upper, 1, some .long)
theorem vm_X11_upper : VM iX11_upper 0 := ⟨gw_1158, gw_1159, gw_74, gw_1160, ⟨by decide, by decide, by decide +kernel⟩, by decide⟩
abbrev iX11_lower : MI := (yX11_lower, cX11_lower, 1, some .long)
theorem vm_X11_lower : VM iX11_lower 0 := ⟨gw_1162, gw_1163, gw_74, gw_1164, ⟨by decide, by decide, by decide +kernel⟩, by decide⟩
abbrev iX11_isRow : MI := (yX11_isRow, cX11_isRow, 1, some .boolean)
theorem sm_X11_isRow : SM iX11_isRow 1 := ⟨gw_1170, gw_74, gw_1171, ⟨by decide, by decide, by decide +kernel⟩, by decide⟩
abbrev iX11_rowAt : MI := (yX11_rowAt, cX11_rowAt, 3, some .int)
theorem vm_X11_rowAt : VM iX11_rowAt 2 := ⟨gw_1182, gw_21, gw_74, gw_1183, ⟨by decide, by decide, by decide +kernel⟩, by decide⟩
abbrev iX11_row : MI := (yX11_row, cX11_row, 4, some .int)
theorem vm_X11_row : VM iX11_row 2 := ⟨gw_1166, gw_1167, gw_74, gw_1168, ⟨by decide, by decide, by decide +kernel⟩, by decide⟩
abbrev iX11_lay : MI := (yX11_lay, cX11_lay, 5, some .int)
theorem vm_X11_lay : VM iX11_lay 3 := ⟨gw_1177, gw_1178, gw_74, gw_1179, ⟨by decide, by decide, by decide +kernel⟩, by decide⟩
abbrev iX11_at : MI := (yX11_at, cX11_at, 3, some .int)
theorem vm_X11_at : VM iX11_at 2 := ⟨gw_1189, gw_1190, gw_74, gw_1191, ⟨by decide, by decide, by decide +kernel⟩, by decide⟩
abbrev iX11_tear : MI := (yX11_tear, cX11_tear, 2, some .int)
theorem vm_X11_tear : VM iX11_tear 1 := ⟨gw_1193, gw_1194, gw_74, gw_1195, ⟨by decide, by decide, by decide +kernel⟩, by decide⟩
abbrev iX11_copy : MI := (yX11_copy, cX11_copy, 7, some .int)
theorem vm_X11_copy : VM iX11_copy 5 := ⟨gw_1197, gw_1198, gw_74, gw_1199, ⟨by decide, by decide, by decide +kernel⟩, by decide⟩
abbrev iX11_mean : MI := (yX11_mean, cX11_mean, 5, some .int)
theorem vm_X11_mean : VM iX11_mean 1 := ⟨gw_1201, gw_1202, gw_74, gw_1203, ⟨by decide, by decide, by decide +kernel⟩, by decide⟩
abbrev iX11_isText : MI := (yX11_isText, cX11_isText, 1, some .boolean)
theorem sm_X11_isText : SM iX11_isText 1 := ⟨gw_1209, gw_74, gw_1210, ⟨by decide, by decide, by decide +kernel⟩, by decide⟩
abbrev iX11_text : MI := (yX11_text, cX11_text, 4, some .int)
theorem vm_X11_text : VM iX11_text 2 := ⟨gw_1205, gw_1206, gw_74, gw_1207, ⟨by decide, by decide, by decide +kernel⟩, by decide⟩
abbrev iX11_put : MI := (yX11_put, cX11_put, 5, some .int)
theorem vm_X11_put : VM iX11_put 3 := ⟨gw_1212, gw_1213, gw_74, gw_1214, ⟨by decide, by decide, by decide +kernel⟩, by decide⟩
abbrev iX11_byteAt : MI := (yX11_byteAt, cX11_byteAt, 3, some .int)
theorem vm_X11_byteAt : VM iX11_byteAt 2 := ⟨gw_1225, gw_24, gw_74, gw_1226, ⟨by decide, by decide, by decide +kernel⟩, by decide⟩
abbrev iX11_layRow : MI := (yX11_layRow, cX11_layRow, 5, none)
theorem vm_X11_layRow : VM iX11_layRow 3 := ⟨gw_1424, gw_52, gw_74, gw_1425, ⟨by decide, by decide, by decide +kernel⟩, by decide⟩
abbrev iX11_kindOf : MI := (yX11_kindOf, cX11_kindOf, 1, some .int)
theorem sm_X11_kindOf : SM iX11_kindOf 1 := ⟨gw_1240, gw_74, gw_1241, ⟨by decide, by decide, by decide +kernel⟩, by decide⟩
abbrev iX11_figureAt : MI := (yX11_figureAt, cX11_figureAt, 3, some .int)
theorem vm_X11_figureAt : VM iX11_figureAt 1 := ⟨gw_1233, gw_26, gw_74, gw_1234, ⟨by decide, by decide, by decide +kernel⟩, by decide⟩
abbrev iX11_readsWinds : MI := (yX11_readsWinds, cX11_readsWinds, 2, some .boolean)
theorem vm_X11_readsWinds : VM iX11_readsWinds 1 := ⟨gw_1229, gw_25, gw_74, gw_1230, ⟨by decide, by decide, by decide +kernel⟩, by decide⟩
abbrev iX11_readsHouse : MI := (yX11_readsHouse, cX11_readsHouse, 6, some .boolean)
theorem vm_X11_readsHouse : VM iX11_readsHouse 1 := ⟨gw_1237, gw_27, gw_74, gw_1238, ⟨by decide, by decide, by decide +kernel⟩, by decide⟩
abbrev iX11_faultOf : MI := (yX11_faultOf, cX11_faultOf, 2, some .int)
theorem vm_X11_faultOf : VM iX11_faultOf 1 := ⟨gw_1221, gw_23, gw_74, gw_1222, ⟨by decide, by decide, by decide +kernel⟩, by decide⟩
abbrev iX11_fault : MI := (yX11_fault, cX11_fault, 2, some .int)
theorem vm_X11_fault : VM iX11_fault 1 := ⟨gw_1216, gw_1217, gw_74, gw_1218, ⟨by decide, by decide, by decide +kernel⟩, by decide⟩
abbrev iX11_village : MI := (yX11_village, cX11_village, 3, some .int)
theorem vm_X11_village : VM iX11_village 1 := ⟨gw_1243, gw_1244, gw_74, gw_1245, ⟨by decide, by decide, by decide +kernel⟩, by decide⟩
abbrev iX11_isHouse : MI := (yX11_isHouse, cX11_isHouse, 2, some .boolean)
theorem vm_X11_isHouse : VM iX11_isHouse 1 := ⟨gw_1252, gw_28, gw_74, gw_1253, ⟨by decide, by decide, by decide +kernel⟩, by decide⟩
abbrev iX11_copyTo : MI := (yX11_copyTo, cX11_copyTo, 4, none)
theorem vm_X11_copyTo : VM iX11_copyTo 2 := ⟨gw_1369, gw_43, gw_74, gw_1370, ⟨by decide, by decide, by decide +kernel⟩, by decide⟩
abbrev iX11_isBurning : MI := (yX11_isBurning, cX11_isBurning, 3, some .boolean)
theorem vm_X11_isBurning : VM iX11_isBurning 2 := ⟨gw_1308, gw_37, gw_74, gw_1309, ⟨by decide, by decide, by decide +kernel⟩, by decide⟩
abbrev iX11_isCatching : MI := (yX11_isCatching, cX11_isCatching, 5, some .boolean)
theorem vm_X11_isCatching : VM iX11_isCatching 2 := ⟨gw_1260, gw_30, gw_74, gw_1261, ⟨by decide, by decide, by decide +kernel⟩, by decide⟩
abbrev iX11_hourOf : MI := (yX11_hourOf, cX11_hourOf, 2, some .int)
theorem vm_X11_hourOf : VM iX11_hourOf 1 := ⟨gw_1315, gw_38, gw_74, gw_1316, ⟨by decide, by decide, by decide +kernel⟩, by decide⟩
abbrev iX11_windOf : MI := (yX11_windOf, cX11_windOf, 2, some .int)
theorem vm_X11_windOf : VM iX11_windOf 1 := ⟨gw_1268, gw_31, gw_74, gw_1269, ⟨by decide, by decide, by decide +kernel⟩, by decide⟩
abbrev iX11_canCarry : MI := (yX11_canCarry, cX11_canCarry, 5, some .boolean)
theorem vm_X11_canCarry : VM iX11_canCarry 3 := ⟨gw_1304, gw_36, gw_74, gw_1305, ⟨by decide, by decide, by decide +kernel⟩, by decide⟩
abbrev iX11_carries : MI := (yX11_carries, cX11_carries, 3, none)
theorem vm_X11_carries : VM iX11_carries 2 := ⟨gw_1319, gw_39, gw_74, gw_1320, ⟨by decide, by decide, by decide +kernel⟩, by decide⟩
abbrev iX11_takesIn : MI := (yX11_takesIn, cX11_takesIn, 3, some .int)
theorem vm_X11_takesIn : VM iX11_takesIn 2 := ⟨gw_1280, gw_33, gw_74, gw_1281, ⟨by decide, by decide, by decide +kernel⟩, by decide⟩
abbrev iX11_burning : MI := (yX11_burning, cX11_burning, 4, some .int)
theorem vm_X11_burning : VM iX11_burning 1 := ⟨gw_1323, gw_40, gw_74, gw_1324, ⟨by decide, by decide, by decide +kernel⟩, by decide⟩
abbrev iX11_passes : MI := (yX11_passes, cX11_passes, 6, none)
theorem vm_X11_passes : VM iX11_passes 1 := ⟨gw_1334, gw_41, gw_74, gw_1335, ⟨by decide, by decide, by decide +kernel⟩, by decide⟩
abbrev iX11_houseTells : MI := (yX11_houseTells, cX11_houseTells, 3, some .int)
theorem vm_X11_houseTells : VM iX11_houseTells 2 := ⟨gw_1256, gw_29, gw_74, gw_1257, ⟨by decide, by decide, by decide +kernel⟩, by decide⟩
abbrev iX11_house : MI := (yX11_house, cX11_house, 3, some .int)
theorem vm_X11_house : VM iX11_house 2 := ⟨gw_1247, gw_1248, gw_74, gw_1249, ⟨by decide, by decide, by decide +kernel⟩, by decide⟩
abbrev iX11_wind : MI := (yX11_wind, cX11_wind, 2, some .int)
theorem vm_X11_wind : VM iX11_wind 1 := ⟨gw_1263, gw_1264, gw_74, gw_1265, ⟨by decide, by decide, by decide +kernel⟩, by decide⟩
abbrev iX11_springOf : MI := (yX11_springOf, cX11_springOf, 5, some .int)
theorem vm_X11_springOf : VM iX11_springOf 2 := ⟨gw_1276, gw_32, gw_74, gw_1277, ⟨by decide, by decide, by decide +kernel⟩, by decide⟩
abbrev iX11_wetBeside : MI := (yX11_wetBeside, cX11_wetBeside, 4, some .int)
theorem vm_X11_wetBeside : VM iX11_wetBeside 1 := ⟨gw_1284, gw_34, gw_74, gw_1285, ⟨by decide, by decide, by decide +kernel⟩, by decide⟩
abbrev iX11_mark : MI := (yX11_mark, cX11_mark, 4, some .int)
theorem vm_X11_mark : VM iX11_mark 2 := ⟨gw_1271, gw_1272, gw_74, gw_1273, ⟨by decide, by decide, by decide +kernel⟩, by decide⟩
abbrev iX11_stack : MI := (yX11_stack, cX11_stack, 4, some .int)
theorem vm_X11_stack : VM iX11_stack 2 := ⟨gw_1287, gw_1288, gw_74, gw_1289, ⟨by decide, by decide, by decide +kernel⟩, by decide⟩
abbrev iX11_remember : MI := (yX11_remember, cX11_remember, 2, none)
theorem vm_X11_remember : VM iX11_remember 0 := ⟨gw_1296, gw_35, gw_74, gw_1297, ⟨by decide, by decide, by decide +kernel⟩, by decide⟩
abbrev iX11_strike : MI := (yX11_strike, cX11_strike, 2, some .int)
theorem vm_X11_strike : VM iX11_strike 1 := ⟨gw_1291, gw_1292, gw_74, gw_1293, ⟨by decide, by decide, by decide +kernel⟩, by decide⟩
abbrev iX11_carry : MI := (yX11_carry, cX11_carry, 3, some .int)
theorem vm_X11_carry : VM iX11_carry 2 := ⟨gw_1299, gw_1300, gw_74, gw_1301, ⟨by decide, by decide, by decide +kernel⟩, by decide⟩
abbrev iX11_hour : MI := (yX11_hour, cX11_hour, 1, some .int)
theorem vm_X11_hour : VM iX11_hour 0 := ⟨gw_1329, gw_1330, gw_74, gw_1331, ⟨by decide, by decide, by decide +kernel⟩, by decide⟩
abbrev iX11_undo : MI := (yX11_undo, cX11_undo, 4, some .int)
theorem vm_X11_undo : VM iX11_undo 1 := ⟨gw_1340, gw_1341, gw_74, gw_1342, ⟨by decide, by decide, by decide +kernel⟩, by decide⟩
abbrev iX11_keep : MI := (yX11_keep, cX11_keep, 3, some .int)
theorem vm_X11_keep : VM iX11_keep 1 := ⟨gw_1344, gw_1345, gw_74, gw_1346, ⟨by decide, by decide, by decide +kernel⟩, by decide⟩
abbrev iX11_on : MI := (yX11_on, cX11_on, 3, some .int)
theorem vm_X11_on : VM iX11_on 1 := ⟨gw_1348, gw_1349, gw_74, gw_1350, ⟨by decide, by decide, by decide +kernel⟩, by decide⟩
abbrev iX11_catching : MI := (yX11_catching, cX11_catching, 4, some .int)
theorem vm_X11_catching : VM iX11_catching 1 := ⟨gw_1357, gw_42, gw_74, gw_1358, ⟨by decide, by decide, by decide +kernel⟩, by decide⟩
abbrev iX11_fires : MI := (yX11_fires, cX11_fires, 1, some .int)
theorem vm_X11_fires : VM iX11_fires 0 := ⟨gw_1352, gw_1353, gw_74, gw_1354, ⟨by decide, by decide, by decide +kernel⟩, by decide⟩
abbrev iX11_reach : MI := (yX11_reach, cX11_reach, 4, some .int)
theorem vm_X11_reach : VM iX11_reach 0 := ⟨gw_1360, gw_1361, gw_74, gw_1362, ⟨by decide, by decide, by decide +kernel⟩, by decide⟩
abbrev iX11_outOf : MI := (yX11_outOf, cX11_outOf, 3, some .int)
theorem vm_X11_outOf : VM iX11_outOf 1 := ⟨gw_1373, gw_44, gw_74, gw_1374, ⟨by decide, by decide, by decide +kernel⟩, by decide⟩
abbrev iX11_lasts : MI := (yX11_lasts, cX11_lasts, 2, some .int)
theorem vm_X11_lasts : VM iX11_lasts 1 := ⟨gw_1364, gw_1365, gw_74, gw_1366, ⟨by decide, by decide, by decide +kernel⟩, by decide⟩
abbrev iX11_everybody : MI := (yX11_everybody, cX11_everybody, 1, some .int)
theorem vm_X11_everybody : VM iX11_everybody 0 := ⟨gw_1381, gw_45, gw_74, gw_1382, ⟨by decide, by decide, by decide +kernel⟩, by decide⟩
abbrev iX11_dark : MI := (yX11_dark, cX11_dark, 1, some .int)
theorem vm_X11_dark : VM iX11_dark 0 := ⟨gw_1376, gw_1377, gw_74, gw_1378, ⟨by decide, by decide, by decide +kernel⟩, by decide⟩
abbrev iX11_worst : MI := (yX11_worst, cX11_worst, 6, some .int)
theorem vm_X11_worst : VM iX11_worst 1 := ⟨gw_1384, gw_1385, gw_74, gw_1386, ⟨by decide, by decide, by decide +kernel⟩, by decide⟩
abbrev iX11_isNone : MI := (yX11_isNone, cX11_isNone, 1, some .boolean)
theorem sm_X11_isNone : SM iX11_isNone 1 := ⟨gw_1416, gw_74, gw_1417, ⟨by decide, by decide, by decide +kernel⟩, by decide⟩
abbrev iX11_canMove : MI := (yX11_canMove, cX11_canMove, 3, some .boolean)
theorem vm_X11_canMove : VM iX11_canMove 2 := ⟨gw_1413, gw_51, gw_74, gw_1414, ⟨by decide, by decide, by decide +kernel⟩, by decide⟩
abbrev iX11_takes : MI := (yX11_takes, cX11_takes, 3, none)
theorem vm_X11_takes : VM iX11_takes 1 := ⟨gw_1405, gw_49, gw_74, gw_1406, ⟨by decide, by decide, by decide +kernel⟩, by decide⟩
abbrev iX11_ends : MI := (yX11_ends, cX11_ends, 5, none)
theorem vm_X11_ends : VM iX11_ends 3 := ⟨gw_1401, gw_48, gw_74, gw_1402, ⟨by decide, by decide, by decide +kernel⟩, by decide⟩
abbrev iX11_isServed : MI := (yX11_isServed, cX11_isServed, 4, some .boolean)
theorem vm_X11_isServed : VM iX11_isServed 1 := ⟨gw_1409, gw_50, gw_74, gw_1410, ⟨by decide, by decide, by decide +kernel⟩, by decide⟩
abbrev iX11_layPlans : MI := (yX11_layPlans, cX11_layPlans, 6, none)
theorem vm_X11_layPlans : VM iX11_layPlans 3 := ⟨gw_1397, gw_47, gw_74, gw_1398, ⟨by decide, by decide, by decide +kernel⟩, by decide⟩
abbrev iX11_allPlans : MI := (yX11_allPlans, cX11_allPlans, 4, none)
theorem vm_X11_allPlans : VM iX11_allPlans 3 := ⟨gw_1393, gw_46, gw_74, gw_1394, ⟨by decide, by decide, by decide +kernel⟩, by decide⟩
abbrev iX11_embers : MI := (yX11_embers, cX11_embers, 4, some .int)
theorem vm_X11_embers : VM iX11_embers 1 := ⟨gw_1428, gw_53, gw_74, gw_1429, ⟨by decide, by decide, by decide +kernel⟩, by decide⟩
abbrev iX11_can : MI := (yX11_can, cX11_can, 2, some .int)
theorem vm_X11_can : VM iX11_can 1 := ⟨gw_1388, gw_1389, gw_74, gw_1390, ⟨by decide, by decide, by decide +kernel⟩, by decide⟩
abbrev iX11_plan : MI := (yX11_plan, cX11_plan, 4, some .int)
theorem vm_X11_plan : VM iX11_plan 3 := ⟨gw_1419, gw_1420, gw_74, gw_1421, ⟨by decide, by decide, by decide +kernel⟩, by decide⟩
abbrev iX11_ways : MI := (yX11_ways, cX11_ways, 3, some .int)
theorem vm_X11_ways : VM iX11_ways 2 := ⟨gw_1431, gw_1432, gw_74, gw_1433, ⟨by decide, by decide, by decide +kernel⟩, by decide⟩
abbrev iX11_most : MI := (yX11_most, cX11_most, 3, some .int)
theorem vm_X11_most : VM iX11_most 2 := ⟨gw_1439, gw_1440, gw_74, gw_1441, ⟨by decide, by decide, by decide +kernel⟩, by decide⟩
abbrev iX11_serve : MI := (yX11_serve, cX11_serve, 3, some .int)
theorem vm_X11_serve : VM iX11_serve 2 := ⟨gw_1443, gw_1444, gw_74, gw_1445, ⟨by decide, by decide, by decide +kernel⟩, by decide⟩
abbrev iX11_areMoves : MI := (yX11_areMoves, cX11_areMoves, 4, some .boolean)
theorem vm_X11_areMoves : VM iX11_areMoves 1 := ⟨gw_1452, gw_55, gw_74, gw_1453, ⟨by decide, by decide, by decide +kernel⟩, by decide⟩
abbrev iX11_run : MI := (yX11_run, cX11_run, 4, some .int)
theorem vm_X11_run : VM iX11_run 1 := ⟨gw_1447, gw_1448, gw_74, gw_1449, ⟨by decide, by decide, by decide +kernel⟩, by decide⟩
abbrev iX11_layFirst : MI := (yX11_layFirst, cX11_layFirst, 3, none)
theorem vm_X11_layFirst : VM iX11_layFirst 1 := ⟨gw_1460, gw_56, gw_74, gw_1461, ⟨by decide, by decide, by decide +kernel⟩, by decide⟩
abbrev iX11_where : MI := (yX11_where, cX11_where, 6, some .int)
theorem vm_X11_where : VM iX11_where 0 := ⟨gw_1455, gw_1456, gw_74, gw_1457, ⟨by decide, by decide, by decide +kernel⟩, by decide⟩
abbrev iX11_needBook : MI := (yX11_needBook, cX11_needBook, 5, some .int)
theorem vm_X11_needBook : VM iX11_needBook 2 := ⟨gw_1468, gw_57, gw_74, gw_1469, ⟨by decide, by decide, by decide +kernel⟩, by decide⟩
abbrev iX11_smokes : MI := (yX11_smokes, cX11_smokes, 6, some .int)
theorem vm_X11_smokes : VM iX11_smokes 2 := ⟨gw_1472, gw_58, gw_74, gw_1473, ⟨by decide, by decide, by decide +kernel⟩, by decide⟩
abbrev iX11_smoke : MI := (yX11_smoke, cX11_smoke, 7, some .int)
theorem vm_X11_smoke : VM iX11_smoke 1 := ⟨gw_1463, gw_1464, gw_74, gw_1465, ⟨by decide, by decide, by decide +kernel⟩, by decide⟩
abbrev iX11_hides : MI := (yX11_hides, cX11_hides, 6, some .int)
theorem vm_X11_hides : VM iX11_hides 2 := ⟨gw_1475, gw_1476, gw_74, gw_1477, ⟨by decide, by decide, by decide +kernel⟩, by decide⟩
abbrev iX11_spring : MI := (yX11_spring, cX11_spring, 3, some .int)
theorem vm_X11_spring : VM iX11_spring 2 := ⟨gw_1479, gw_1480, gw_74, gw_1481, ⟨by decide, by decide, by decide +kernel⟩, by decide⟩
abbrev iX11_partsOf : MI := (yX11_partsOf, cX11_partsOf, 10, some .long)
theorem vm_X11_partsOf : VM iX11_partsOf 4 := ⟨gw_1489, gw_59, gw_74, gw_1490, ⟨by decide, by decide, by decide +kernel⟩, by decide⟩
abbrev iX11_odds : MI := (yX11_odds, cX11_odds, 7, some .int)
theorem vm_X11_odds : VM iX11_odds 3 := ⟨gw_1483, gw_1484, gw_74, gw_1485, ⟨by decide, by decide, by decide +kernel⟩, by decide⟩
abbrev iX11_lots : MI := (yX11_lots, cX11_lots, 8, some .int)
theorem vm_X11_lots : VM iX11_lots 2 := ⟨gw_1492, gw_1493, gw_74, gw_1494, ⟨by decide, by decide, by decide +kernel⟩, by decide⟩
abbrev iX11_counted : MI := (yX11_counted, cX11_counted, 4, some .int)
theorem vm_X11_counted : VM iX11_counted 1 := ⟨gw_1505, gw_60, gw_74, gw_1506, ⟨by decide, by decide, by decide +kernel⟩, by decide⟩
abbrev iX11_count : MI := (yX11_count, cX11_count, 2, some .int)
theorem vm_X11_count : VM iX11_count 1 := ⟨gw_1500, gw_1501, gw_74, gw_1502, ⟨by decide, by decide, by decide +kernel⟩, by decide⟩
abbrev iX11_mix : MI := (yX11_mix, cX11_mix, 3, none)
theorem vm_X11_mix : VM iX11_mix 1 := ⟨gw_1514, gw_61, gw_74, gw_1515, ⟨by decide, by decide, by decide +kernel⟩, by decide⟩
abbrev iX11_mixVillage : MI := (yX11_mixVillage, cX11_mixVillage, 3, none)
theorem vm_X11_mixVillage : VM iX11_mixVillage 0 := ⟨gw_1519, gw_62, gw_74, gw_1520, ⟨by decide, by decide, by decide +kernel⟩, by decide⟩
abbrev iX11_digest : MI := (yX11_digest, cX11_digest, 3, some .long)
theorem vm_X11_digest : VM iX11_digest 0 := ⟨gw_1508, gw_1509, gw_74, gw_1510, ⟨by decide, by decide, by decide +kernel⟩, by decide⟩
abbrev iX0_init : MI := (yX0_init, cX0_init, 2, none)
theorem cm_X0_init : CM iX0_init 1 := ⟨gw_153, gw_68, gw_154, ⟨by decide, by decide, by decide +kernel⟩, by decide, rfl, rfl⟩
abbrev iX0_begin : MI := (yX0_begin, cX0_begin, 1, none)
theorem vm_X0_begin : VM iX0_begin 0 := ⟨gw_544, gw_545, gw_68, gw_546, ⟨by decide, by decide, by decide +kernel⟩, by decide⟩
abbrev iX0_leave : MI := (yX0_leave, cX0_leave, 1, none)
theorem vm_X0_leave : VM iX0_leave 0 := ⟨gw_552, gw_553, gw_68, gw_554, ⟨by decide, by decide, by decide +kernel⟩, by decide⟩
abbrev iX0_become : MI := (yX0_become, cX0_become, 2, none)
theorem vm_X0_become : VM iX0_become 1 := ⟨gw_727, gw_728, gw_68, gw_729, ⟨by decide, by decide, by decide +kernel⟩, by decide⟩
abbrev iX0_restack : MI := (yX0_restack, cX0_restack, 3, none)
theorem vm_X0_restack : VM iX0_restack 2 := ⟨gw_636, gw_637, gw_68, gw_638, ⟨by decide, by decide, by decide +kernel⟩, by decide⟩
abbrev iX0_hasRoom : MI := (yX0_hasRoom, cX0_hasRoom, 2, some .boolean)
theorem vm_X0_hasRoom : VM iX0_hasRoom 1 := ⟨gw_651, gw_652, gw_68, gw_653, ⟨by decide, by decide, by decide +kernel⟩, by decide⟩
abbrev iX0_act : MI := (yX0_act, cX0_act, 2, none)
theorem vm_X0_act : VM iX0_act 1 := ⟨gw_655, gw_656, gw_68, gw_657, ⟨by decide, by decide, by decide +kernel⟩, by decide⟩
abbrev iX0_goBack : MI := (yX0_goBack, cX0_goBack, 4, some .int)
theorem vm_X0_goBack : VM iX0_goBack 1 := ⟨gw_716, gw_717, gw_68, gw_718, ⟨by decide, by decide, by decide +kernel⟩, by decide⟩
abbrev iX1_init : MI := (yX1_init, cX1_init, 2, none)
theorem cm_X1_init : CM iX1_init 1 := ⟨gw_159, gw_69, gw_160, ⟨by decide, by decide, by decide +kernel⟩, by decide, rfl, rfl⟩
abbrev iX1_clear : MI := (yX1_clear, cX1_clear, 1, none)
theorem vm_X1_clear : VM iX1_clear 0 := ⟨gw_487, gw_488, gw_69, gw_489, ⟨by decide, by decide, by decide +kernel⟩, by decide⟩
abbrev iX1_become : MI := (yX1_become, cX1_become, 3, none)
theorem vm_X1_become : VM iX1_become 1 := ⟨gw_548, gw_549, gw_69, gw_550, ⟨by decide, by decide, by decide +kernel⟩, by decide⟩
abbrev iX1_furnish : MI := (yX1_furnish, cX1_furnish, 4, none)
theorem vm_X1_furnish : VM iX1_furnish 3 := ⟨gw_524, gw_525, gw_69, gw_526, ⟨by decide, by decide, by decide +kernel⟩, by decide⟩
abbrev iX1_woodOf : MI := (yX1_woodOf, cX1_woodOf, 2, some .int)
theorem vm_X1_woodOf : VM iX1_woodOf 1 := ⟨gw_573, gw_574, gw_69, gw_575, ⟨by decide, by decide, by decide +kernel⟩, by decide⟩
abbrev iX1_wetOf : MI := (yX1_wetOf, cX1_wetOf, 2, some .int)
theorem vm_X1_wetOf : VM iX1_wetOf 1 := ⟨gw_578, gw_579, gw_69, gw_580, ⟨by decide, by decide, by decide +kernel⟩, by decide⟩
abbrev iX1_allWood : MI := (yX1_allWood, cX1_allWood, 3, some .int)
theorem vm_X1_allWood : VM iX1_allWood 0 := ⟨gw_878, gw_879, gw_69, gw_880, ⟨by decide, by decide, by decide +kernel⟩, by decide⟩
abbrev iX1_burns : MI := (yX1_burns, cX1_burns, 2, some .boolean)
theorem vm_X1_burns : VM iX1_burns 1 := ⟨gw_586, gw_587, gw_69, gw_588, ⟨by decide, by decide, by decide +kernel⟩, by decide⟩
abbrev iX1_catches : MI := (yX1_catches, cX1_catches, 2, some .boolean)
theorem vm_X1_catches : VM iX1_catches 1 := ⟨gw_590, gw_591, gw_69, gw_592, ⟨by decide, by decide, by decide +kernel⟩, by decide⟩
abbrev iX1_catching : MI := (yX1_catching, cX1_catching, 3, some .int)
theorem vm_X1_catching : VM iX1_catching 0 := ⟨gw_740, gw_741, gw_69, gw_742, ⟨by decide, by decide, by decide +kernel⟩, by decide⟩
abbrev iX1_alight : MI := (yX1_alight, cX1_alight, 1, some .int)
theorem vm_X1_alight : VM iX1_alight 0 := ⟨gw_698, gw_699, gw_69, gw_700, ⟨by decide, by decide, by decide +kernel⟩, by decide⟩
abbrev iX1_canStrike : MI := (yX1_canStrike, cX1_canStrike, 2, some .boolean)
theorem vm_X1_canStrike : VM iX1_canStrike 1 := ⟨gw_646, gw_647, gw_69, gw_648, ⟨by decide, by decide, by decide +kernel⟩, by decide⟩
abbrev iX1_canCarry : MI := (yX1_canCarry, cX1_canCarry, 3, some .boolean)
theorem vm_X1_canCarry : VM iX1_canCarry 2 := ⟨gw_689, gw_690, gw_69, gw_691, ⟨by decide, by decide, by decide +kernel⟩, by decide⟩
abbrev iX1_canMove : MI := (yX1_canMove, cX1_canMove, 2, some .boolean)
theorem vm_X1_canMove : VM iX1_canMove 1 := ⟨gw_752, gw_753, gw_69, gw_754, ⟨by decide, by decide, by decide +kernel⟩, by decide⟩
abbrev iX1_reachable : MI := (yX1_reachable, cX1_reachable, 3, some .int)
theorem vm_X1_reachable : VM iX1_reachable 0 := ⟨gw_748, gw_749, gw_69, gw_750, ⟨by decide, by decide, by decide +kernel⟩, by decide⟩
abbrev iX1_light : MI := (yX1_light, cX1_light, 2, none)
theorem vm_X1_light : VM iX1_light 1 := ⟨gw_663, gw_664, gw_69, gw_665, ⟨by decide, by decide, by decide +kernel⟩, by decide⟩
abbrev iX1_bring : MI := (yX1_bring, cX1_bring, 2, none)
theorem vm_X1_bring : VM iX1_bring 1 := ⟨gw_681, gw_682, gw_69, gw_683, ⟨by decide, by decide, by decide +kernel⟩, by decide⟩
abbrev iX1_pass : MI := (yX1_pass, cX1_pass, 3, none)
theorem vm_X1_pass : VM iX1_pass 0 := ⟨gw_667, gw_668, gw_69, gw_669, ⟨by decide, by decide, by decide +kernel⟩, by decide⟩
abbrev iX1_feed : MI := (yX1_feed, cX1_feed, 2, none)
theorem vm_X1_feed : VM iX1_feed 1 := ⟨gw_672, gw_3, gw_69, gw_673, ⟨by decide, by decide, by decide +kernel⟩, by decide⟩
abbrev iX1_beside : MI := (yX1_beside, cX1_beside, 1, some .int)
theorem sm_X1_beside : SM iX1_beside 1 := ⟨gw_678, gw_69, gw_679, ⟨by decide, by decide, by decide +kernel⟩, by decide⟩
abbrev iX1_act : MI := (yX1_act, cX1_act, 2, none)
theorem vm_X1_act : VM iX1_act 1 := ⟨gw_659, gw_660, gw_69, gw_661, ⟨by decide, by decide, by decide +kernel⟩, by decide⟩
abbrev iX1_wetBeside : MI := (yX1_wetBeside, cX1_wetBeside, 2, some .int)
theorem vm_X1_wetBeside : VM iX1_wetBeside 1 := ⟨gw_627, gw_628, gw_69, gw_629, ⟨by decide, by decide, by decide +kernel⟩, by decide⟩
abbrev iX1_woodFor : MI := (yX1_woodFor, cX1_woodFor, 5, some .int)
theorem vm_X1_woodFor : VM iX1_woodFor 2 := ⟨gw_618, gw_619, gw_69, gw_620, ⟨by decide, by decide, by decide +kernel⟩, by decide⟩
abbrev iX1_woodLasts : MI := (yX1_woodLasts, cX1_woodLasts, 4, some .int)
theorem vm_X1_woodLasts : VM iX1_woodLasts 1 := ⟨gw_765, gw_766, gw_69, gw_767, ⟨by decide, by decide, by decide +kernel⟩, by decide⟩
abbrev iX1_burnsOn : MI := (yX1_burnsOn, cX1_burnsOn, 2, some .int)
theorem vm_X1_burnsOn : VM iX1_burnsOn 1 := ⟨gw_761, gw_762, gw_69, gw_763, ⟨by decide, by decide, by decide +kernel⟩, by decide⟩
abbrev iX1_alightAfter : MI := (yX1_alightAfter, cX1_alightAfter, 4, some .int)
theorem vm_X1_alightAfter : VM iX1_alightAfter 1 := ⟨gw_779, gw_780, gw_69, gw_781, ⟨by decide, by decide, by decide +kernel⟩, by decide⟩
abbrev iX1_servesHour : MI := (yX1_servesHour, cX1_servesHour, 2, some .boolean)
theorem vm_X1_servesHour : VM iX1_servesHour 0 := ⟨gw_814, gw_815, gw_69, gw_816, ⟨by decide, by decide, by decide +kernel⟩, by decide⟩
abbrev iX2_byLetter : MI := (yX2_byLetter, cX2_byLetter, 1, some .int)
theorem sm_X2_byLetter : SM iX2_byLetter 1 := ⟨gw_518, gw_76, gw_519, ⟨by decide, by decide, by decide +kernel⟩, by decide⟩
abbrev iX2_isOf : MI := (yX2_isOf, cX2_isOf, 2, some .boolean)
theorem sm_X2_isOf : SM iX2_isOf 2 := ⟨gw_611, gw_76, gw_612, ⟨by decide, by decide, by decide +kernel⟩, by decide⟩
abbrev iX2_takes : MI := (yX2_takes, cX2_takes, 2, some .int)
theorem sm_X2_takes : SM iX2_takes 2 := ⟨gw_623, gw_76, gw_624, ⟨by decide, by decide, by decide +kernel⟩, by decide⟩
abbrev iX2_dampest : MI := (yX2_dampest, cX2_dampest, 1, some .int)
theorem sm_X2_dampest : SM iX2_dampest 1 := ⟨gw_594, gw_76, gw_595, ⟨by decide, by decide, by decide +kernel⟩, by decide⟩
abbrev iX3_init : MI := (yX3_init, cX3_init, 1, none)
theorem cm_X3_init : CM iX3_init 0 := ⟨gw_125, gw_67, gw_126, ⟨by decide, by decide, by decide +kernel⟩, by decide, rfl, rfl⟩
abbrev iX3_clear : MI := (yX3_clear, cX3_clear, 1, none)
theorem vm_X3_clear : VM iX3_clear 0 := ⟨gw_483, gw_484, gw_67, gw_485, ⟨by decide, by decide, by decide +kernel⟩, by decide⟩
abbrev iX3_isEmpty : MI := (yX3_isEmpty, cX3_isEmpty, 1, some .boolean)
theorem vm_X3_isEmpty : VM iX3_isEmpty 0 := ⟨gw_536, gw_537, gw_67, gw_538, ⟨by decide, by decide, by decide +kernel⟩, by decide⟩
abbrev iX3_isFull : MI := (yX3_isFull, cX3_isFull, 1, some .boolean)
theorem vm_X3_isFull : VM iX3_isFull 0 := ⟨gw_532, gw_533, gw_67, gw_534, ⟨by decide, by decide, by decide +kernel⟩, by decide⟩
abbrev iX3_has : MI := (yX3_has, cX3_has, 2, some .boolean)
theorem vm_X3_has : VM iX3_has 1 := ⟨gw_560, gw_561, gw_67, gw_562, ⟨by decide, by decide, by decide +kernel⟩, by decide⟩
abbrev iX3_allHouses : MI := (yX3_allHouses, cX3_allHouses, 1, some .int)
theorem vm_X3_allHouses : VM iX3_allHouses 0 := ⟨gw_891, gw_892, gw_67, gw_893, ⟨by decide, by decide, by decide +kernel⟩, by decide⟩
abbrev iX3_hasWinds : MI := (yX3_hasWinds, cX3_hasWinds, 1, some .boolean)
theorem vm_X3_hasWinds : VM iX3_hasWinds 0 := ⟨gw_510, gw_511, gw_67, gw_512, ⟨by decide, by decide, by decide +kernel⟩, by decide⟩
abbrev iX3_hasAllWinds : MI := (yX3_hasAllWinds, cX3_hasAllWinds, 1, some .boolean)
theorem vm_X3_hasAllWinds : VM iX3_hasAllWinds 0 := ⟨gw_498, gw_499, gw_67, gw_500, ⟨by decide, by decide, by decide +kernel⟩, by decide⟩
abbrev iX3_addWind : MI := (yX3_addWind, cX3_addWind, 2, none)
theorem vm_X3_addWind : VM iX3_addWind 1 := ⟨gw_505, gw_506, gw_67, gw_507, ⟨by decide, by decide, by decide +kernel⟩, by decide⟩
abbrev iX3_addHouse : MI := (yX3_addHouse, cX3_addHouse, 3, none)
theorem vm_X3_addHouse : VM iX3_addHouse 2 := ⟨gw_528, gw_529, gw_67, gw_530, ⟨by decide, by decide, by decide +kernel⟩, by decide⟩
abbrev iX3_kindOf : MI := (yX3_kindOf, cX3_kindOf, 2, some .int)
theorem vm_X3_kindOf : VM iX3_kindOf 1 := ⟨gw_568, gw_569, gw_67, gw_570, ⟨by decide, by decide, by decide +kernel⟩, by decide⟩
abbrev iX3_needOf : MI := (yX3_needOf, cX3_needOf, 2, some .int)
theorem vm_X3_needOf : VM iX3_needOf 1 := ⟨gw_582, gw_583, gw_67, gw_584, ⟨by decide, by decide, by decide +kernel⟩, by decide⟩
abbrev iX3_windAt : MI := (yX3_windAt, cX3_windAt, 2, some .int)
theorem vm_X3_windAt : VM iX3_windAt 1 := ⟨gw_602, gw_603, gw_67, gw_604, ⟨by decide, by decide, by decide +kernel⟩, by decide⟩
abbrev iX3_countOf : MI := (yX3_countOf, cX3_countOf, 4, some .int)
theorem vm_X3_countOf : VM iX3_countOf 1 := ⟨gw_980, gw_981, gw_67, gw_982, ⟨by decide, by decide, by decide +kernel⟩, by decide⟩
abbrev iX4_init : MI := (yX4_init, cX4_init, 3, none)
theorem cm_X4_init : CM iX4_init 1 := ⟨gw_293, gw_73, gw_294, ⟨by decide, by decide, by decide +kernel⟩, by decide, rfl, rfl⟩
abbrev iX4_reckon : MI := (yX4_reckon, cX4_reckon, 6, none)
theorem vm_X4_reckon : VM iX4_reckon 4 := ⟨gw_930, gw_931, gw_73, gw_932, ⟨by decide, by decide, by decide +kernel⟩, by decide⟩
abbrev iX4_casesFrom : MI := (yX4_casesFrom, cX4_casesFrom, 3, some .long)
theorem vm_X4_casesFrom : VM iX4_casesFrom 1 := ⟨gw_937, gw_13, gw_73, gw_938, ⟨by decide, by decide, by decide +kernel⟩, by decide⟩
abbrev iX4_casesBehind : MI := (yX4_casesBehind, cX4_casesBehind, 4, some .long)
theorem vm_X4_casesBehind : VM iX4_casesBehind 2 := ⟨gw_944, gw_14, gw_73, gw_945, ⟨by decide, by decide, by decide +kernel⟩, by decide⟩
abbrev iX5_init : MI := (yX5_init, cX5_init, 3, none)
theorem cm_X5_init : CM iX5_init 1 := ⟨gw_222, gw_71, gw_223, ⟨by decide, by decide, by decide +kernel⟩, by decide, rfl, rfl⟩
abbrev iX5_search : MI := (yX5_search, cX5_search, 5, none)
theorem vm_X5_search : VM iX5_search 4 := ⟨gw_791, gw_792, gw_71, gw_793, ⟨by decide, by decide, by decide +kernel⟩, by decide⟩
abbrev iX5_isFound : MI := (yX5_isFound, cX5_isFound, 1, some .boolean)
theorem vm_X5_isFound : VM iX5_isFound 0 := ⟨gw_823, gw_824, gw_71, gw_825, ⟨by decide, by decide, by decide +kernel⟩, by decide⟩
abbrev iX5_bestMove : MI := (yX5_bestMove, cX5_bestMove, 2, some .int)
theorem vm_X5_bestMove : VM iX5_bestMove 1 := ⟨gw_843, gw_844, gw_71, gw_845, ⟨by decide, by decide, by decide +kernel⟩, by decide⟩
abbrev iX5_walk : MI := (yX5_walk, cX5_walk, 4, none)
theorem vm_X5_walk : VM iX5_walk 1 := ⟨gw_801, gw_4, gw_71, gw_802, ⟨by decide, by decide, by decide +kernel⟩, by decide⟩
abbrev iX5_take : MI := (yX5_take, cX5_take, 4, none)
theorem vm_X5_take : VM iX5_take 2 := ⟨gw_829, gw_8, gw_71, gw_830, ⟨by decide, by decide, by decide +kernel⟩, by decide⟩
abbrev iX5_isOver : MI := (yX5_isOver, cX5_isOver, 1, some .boolean)
theorem vm_X5_isOver : VM iX5_isOver 0 := ⟨gw_820, gw_7, gw_71, gw_821, ⟨by decide, by decide, by decide +kernel⟩, by decide⟩
abbrev iX5_weigh : MI := (yX5_weigh, cX5_weigh, 3, none)
theorem vm_X5_weigh : VM iX5_weigh 1 := ⟨gw_805, gw_5, gw_71, gw_806, ⟨by decide, by decide, by decide +kernel⟩, by decide⟩
abbrev iX5_rankOf : MI := (yX5_rankOf, cX5_rankOf, 2, some .int)
theorem vm_X5_rankOf : VM iX5_rankOf 1 := ⟨gw_810, gw_6, gw_71, gw_811, ⟨by decide, by decide, by decide +kernel⟩, by decide⟩
abbrev iX6_init : MI := (yX6_init, cX6_init, 1, none)
theorem cm_X6_init : CM iX6_init 0 := ⟨gw_213, gw_70, gw_214, ⟨by decide, by decide, by decide +kernel⟩, by decide, rfl, rfl⟩
abbrev iX6_read : MI := (yX6_read, cX6_read, 7, some .int)
theorem vm_X6_read : VM iX6_read 3 := ⟨gw_479, gw_480, gw_70, gw_481, ⟨by decide, by decide, by decide +kernel⟩, by decide⟩
abbrev iX6_skipBlanks : MI := (yX6_skipBlanks, cX6_skipBlanks, 3, some .int)
theorem sm_X6_skipBlanks : SM iX6_skipBlanks 2 := ⟨gw_491, gw_70, gw_492, ⟨by decide, by decide, by decide +kernel⟩, by decide⟩
abbrev iX6_readWinds : MI := (yX6_readWinds, cX6_readWinds, 4, some .int)
theorem sm_X6_readWinds : SM iX6_readWinds 3 := ⟨gw_495, gw_70, gw_496, ⟨by decide, by decide, by decide +kernel⟩, by decide⟩
abbrev iX6_faultOfHouse : MI := (yX6_faultOfHouse, cX6_faultOfHouse, 2, some .int)
theorem sm_X6_faultOfHouse : SM iX6_faultOfHouse 2 := ⟨gw_515, gw_70, gw_516, ⟨by decide, by decide, by decide +kernel⟩, by decide⟩
abbrev iX6_addHouse : MI := (yX6_addHouse, cX6_addHouse, 5, none)
theorem sm_X6_addHouse : SM iX6_addHouse 4 := ⟨gw_521, gw_70, gw_522, ⟨by decide, by decide, by decide +kernel⟩, by decide⟩
abbrev iX6_isFigure : MI := (yX6_isFigure, cX6_isFigure, 2, some .boolean)
theorem sm_X6_isFigure : SM iX6_isFigure 2 := ⟨gw_502, gw_70, gw_503, ⟨by decide, by decide, by decide +kernel⟩, by decide⟩
abbrev iX7_init : MI := (yX7_init, cX7_init, 1, none)
theorem cm_X7_init : CM iX7_init 0 := ⟨gw_91, gw_65, gw_92, ⟨by decide, by decide, by decide +kernel⟩, by decide, rfl, rfl⟩
abbrev iX7_isThere : MI := (yX7_isThere, cX7_isThere, 1, some .boolean)
theorem vm_X7_isThere : VM iX7_isThere 0 := ⟨gw_395, gw_396, gw_65, gw_397, ⟨by decide, by decide, by decide +kernel⟩, by decide⟩
abbrev iX7_has : MI := (yX7_has, cX7_has, 2, some .boolean)
theorem vm_X7_has : VM iX7_has 1 := ⟨gw_399, gw_400, gw_65, gw_401, ⟨by decide, by decide, by decide +kernel⟩, by decide⟩
abbrev iX7_hasSpan : MI := (yX7_hasSpan, cX7_hasSpan, 3, some .boolean)
theorem vm_X7_hasSpan : VM iX7_hasSpan 2 := ⟨gw_428, gw_429, gw_65, gw_430, ⟨by decide, by decide, by decide +kernel⟩, by decide⟩
abbrev iX7_begin : MI := (yX7_begin, cX7_begin, 3, none)
theorem vm_X7_begin : VM iX7_begin 1 := ⟨gw_383, gw_384, gw_65, gw_385, ⟨by decide, by decide, by decide +kernel⟩, by decide⟩
abbrev iX7_end : MI := (yX7_end, cX7_end, 1, none)
theorem vm_X7_end : VM iX7_end 0 := ⟨gw_420, gw_421, gw_65, gw_422, ⟨by decide, by decide, by decide +kernel⟩, by decide⟩
abbrev iX7_get : MI := (yX7_get, cX7_get, 2, some .int)
theorem vm_X7_get : VM iX7_get 1 := ⟨gw_403, gw_404, gw_65, gw_405, ⟨by decide, by decide, by decide +kernel⟩, by decide⟩
abbrev iX7_set : MI := (yX7_set, cX7_set, 3, none)
theorem vm_X7_set : VM iX7_set 2 := ⟨gw_407, gw_408, gw_65, gw_409, ⟨by decide, by decide, by decide +kernel⟩, by decide⟩
abbrev iX7_lacks : MI := (yX7_lacks, cX7_lacks, 2, some .int)
theorem vm_X7_lacks : VM iX7_lacks 1 := ⟨gw_391, gw_392, gw_65, gw_393, ⟨by decide, by decide, by decide +kernel⟩, by decide⟩
abbrev iX7_lacksSizeOrRange : MI := (yX7_lacksSizeOrRange, cX7_lacksSizeOrRange, 5, some .int)
theorem vm_X7_lacksSizeOrRange : VM iX7_lacksSizeOrRange 3 := ⟨gw_870, gw_871, gw_65, gw_872, ⟨by decide, by decide, by decide +kernel⟩, by decide⟩
abbrev iX7_sum : MI := (yX7_sum, cX7_sum, 4, some .long)
theorem vm_X7_sum : VM iX7_sum 0 := ⟨gw_439, gw_440, gw_65, gw_441, ⟨by decide, by decide, by decide +kernel⟩, by decide⟩
abbrev iX7_union : MI := (yX7_union, cX7_union, 3, some .int)
theorem vm_X7_union : VM iX7_union 0 := ⟨gw_918, gw_919, gw_65, gw_920, ⟨by decide, by decide, by decide +kernel⟩, by decide⟩
abbrev iX7_digestOnto : MI := (yX7_digestOnto, cX7_digestOnto, 6, some .long)
theorem vm_X7_digestOnto : VM iX7_digestOnto 1 := ⟨gw_1011, gw_1012, gw_65, gw_1013, ⟨by decide, by decide, by decide +kernel⟩, by decide⟩
abbrev iX8_init : MI := (yX8_init, cX8_init, 3, none)
theorem cm_X8_init : CM iX8_init 1 := ⟨gw_267, gw_72, gw_268, ⟨by decide, by decide, by decide +kernel⟩, by decide, rfl, rfl⟩
abbrev iX8_search : MI := (yX8_search, cX8_search, 5, none)
theorem vm_X8_search : VM iX8_search 2 := ⟨gw_895, gw_896, gw_72, gw_897, ⟨by decide, by decide, by decide +kernel⟩, by decide⟩
abbrev iX8_walk : MI := (yX8_walk, cX8_walk, 3, none)
theorem vm_X8_walk : VM iX8_walk 1 := ⟨gw_903, gw_11, gw_72, gw_904, ⟨by decide, by decide, by decide +kernel⟩, by decide⟩
abbrev iX8_take : MI := (yX8_take, cX8_take, 4, none)
theorem vm_X8_take : VM iX8_take 2 := ⟨gw_908, gw_12, gw_72, gw_909, ⟨by decide, by decide, by decide +kernel⟩, by decide⟩
abbrev iX9_init : MI := (yX9_init, cX9_init, 1, none)
theorem cm_X9_init : CM iX9_init 0 := ⟨gw_110, gw_66, gw_111, ⟨by decide, by decide, by decide +kernel⟩, by decide, rfl, rfl⟩
abbrev iX9_isThere : MI := (yX9_isThere, cX9_isThere, 1, some .boolean)
theorem vm_X9_isThere : VM iX9_isThere 0 := ⟨gw_458, gw_459, gw_66, gw_460, ⟨by decide, by decide, by decide +kernel⟩, by decide⟩
abbrev iX9_has : MI := (yX9_has, cX9_has, 2, some .boolean)
theorem vm_X9_has : VM iX9_has 1 := ⟨gw_462, gw_463, gw_66, gw_464, ⟨by decide, by decide, by decide +kernel⟩, by decide⟩
abbrev iX9_begin : MI := (yX9_begin, cX9_begin, 3, none)
theorem vm_X9_begin : VM iX9_begin 1 := ⟨gw_450, gw_451, gw_66, gw_452, ⟨by decide, by decide, by decide +kernel⟩, by decide⟩
abbrev iX9_get : MI := (yX9_get, cX9_get, 2, some .int)
theorem vm_X9_get : VM iX9_get 1 := ⟨gw_466, gw_467, gw_66, gw_468, ⟨by decide, by decide, by decide +kernel⟩, by decide⟩
abbrev iX9_set : MI := (yX9_set, cX9_set, 3, none)
theorem vm_X9_set : VM iX9_set 2 := ⟨gw_471, gw_472, gw_66, gw_473, ⟨by decide, by decide, by decide +kernel⟩, by decide⟩
abbrev iX9_digestOnto : MI := (yX9_digestOnto, cX9_digestOnto, 6, some .long)
theorem vm_X9_digestOnto : VM iX9_digestOnto 1 := ⟨gw_1016, gw_1017, gw_66, gw_1018, ⟨by decide, by decide, by decide +kernel⟩, by decide⟩
abbrev iL_law : MI := (x, code, maxLocals, ret)
abbrev iJ6_bitCount_0f7a4 : MI := (yJ6_bitCount_0f7a4, cJ6_bitCount_0f7a4, 1, some .int)
theorem sm_J6_bitCount_0f7a4 : SM iJ6_bitCount_0f7a4 1 := ⟨gw_702, gw_78, gw_703, ⟨by decide, by decide, by decide +kernel⟩, by decide⟩
