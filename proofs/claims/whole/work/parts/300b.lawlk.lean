theorem cm_L_town : Cond.codeWith yL_town cL_town 3 (some .int) [(0, 8, 11, 13), (0, 8, 14, 15)] ∈ am_G := am_G_t (i := 536) (by decide +kernel) rfl
theorem sm_L_town : Cond.static yL_town ∈ am_G := am_G_t (i := 535) (by decide +kernel) rfl
theorem in_L : Cond.initialized RL ∈ am_G := am_G_t (i := 0) (by decide +kernel) rfl
theorem ct_L_127 : am_csH RL 127 yL_town cL_town 3 (some .int) [(0, 8, 11, 13), (0, 8, 14, 15)] 2 := ⟨cm_L_town, am_G_t (i := 534) (by decide +kernel) rfl, sm_L_town, in_L, ⟨by decide, by decide, by decide +kernel⟩⟩
theorem cm_L_law : Cond.codeWith yL_law cL_law 3 (some .int) [(0, 8, 11, 13)] ∈ am_G := am_G_t (i := 766) (by decide +kernel) rfl
theorem sm_L_law : Cond.static yL_law ∈ am_G := am_G_t (i := 765) (by decide +kernel) rfl
theorem ct_L_136 : am_csH RL 136 yL_law cL_law 3 (some .int) [(0, 8, 11, 13)] 2 := ⟨cm_L_law, am_G_t (i := 764) (by decide +kernel) rfl, sm_L_law, in_L, ⟨by decide, by decide, by decide +kernel⟩⟩
theorem cm_L_house : Cond.codeWith yL_house cL_house 5 (some .int) [(0, 10, 13, 24), (0, 10, 17, 26)] ∈ am_G := am_G_t (i := 832) (by decide +kernel) rfl
theorem sm_L_house : Cond.static yL_house ∈ am_G := am_G_t (i := 831) (by decide +kernel) rfl
theorem ct_L_143 : am_csH RL 143 yL_house cL_house 5 (some .int) [(0, 10, 13, 24), (0, 10, 17, 26)] 4 := ⟨cm_L_house, am_G_t (i := 830) (by decide +kernel) rfl, sm_L_house, in_L, ⟨by decide, by decide, by decide +kernel⟩⟩
theorem cm_L_want : Cond.codeWith yL_want cL_want 4 (some .int) [(0, 9, 12, 24)] ∈ am_G := am_G_t (i := 879) (by decide +kernel) rfl
theorem sm_L_want : Cond.static yL_want ∈ am_G := am_G_t (i := 878) (by decide +kernel) rfl
theorem ct_L_147 : am_csH RL 147 yL_want cL_want 4 (some .int) [(0, 9, 12, 24)] 3 := ⟨cm_L_want, am_G_t (i := 877) (by decide +kernel) rfl, sm_L_want, in_L, ⟨by decide, by decide, by decide +kernel⟩⟩
theorem cm_L_code : Cond.codeWith yL_code cL_code 5 (some .int) [(0, 10, 13, 24)] ∈ am_G := am_G_t (i := 892) (by decide +kernel) rfl
theorem sm_L_code : Cond.static yL_code ∈ am_G := am_G_t (i := 891) (by decide +kernel) rfl
theorem ct_L_151 : am_csH RL 151 yL_code cL_code 5 (some .int) [(0, 10, 13, 24)] 4 := ⟨cm_L_code, am_G_t (i := 890) (by decide +kernel) rfl, sm_L_code, in_L, ⟨by decide, by decide, by decide +kernel⟩⟩
theorem cm_L_cost : Cond.codeWith yL_cost cL_cost 4 (some .int) [(0, 9, 12, 13)] ∈ am_G := am_G_t (i := 900) (by decide +kernel) rfl
theorem sm_L_cost : Cond.static yL_cost ∈ am_G := am_G_t (i := 899) (by decide +kernel) rfl
theorem ct_L_154 : am_csH RL 154 yL_cost cL_cost 4 (some .int) [(0, 9, 12, 13)] 3 := ⟨cm_L_cost, am_G_t (i := 898) (by decide +kernel) rfl, sm_L_cost, in_L, ⟨by decide, by decide, by decide +kernel⟩⟩
theorem cm_L_way : Cond.codeWith yL_way cL_way 6 (some .int) [(0, 12, 15, 24), (0, 12, 19, 26)] ∈ am_G := am_G_t (i := 913) (by decide +kernel) rfl
theorem sm_L_way : Cond.static yL_way ∈ am_G := am_G_t (i := 912) (by decide +kernel) rfl
theorem ct_L_157 : am_csH RL 157 yL_way cL_way 6 (some .int) [(0, 12, 15, 24), (0, 12, 19, 26)] 5 := ⟨cm_L_way, am_G_t (i := 911) (by decide +kernel) rfl, sm_L_way, in_L, ⟨by decide, by decide, by decide +kernel⟩⟩
theorem cm_L_ring : Cond.codeWith yL_ring cL_ring 6 (some .int) [(0, 12, 15, 24), (0, 12, 19, 13), (0, 12, 23, 15)] ∈ am_G := am_G_t (i := 931) (by decide +kernel) rfl
theorem sm_L_ring : Cond.static yL_ring ∈ am_G := am_G_t (i := 930) (by decide +kernel) rfl
theorem ct_L_161 : am_csH RL 161 yL_ring cL_ring 6 (some .int) [(0, 12, 15, 24), (0, 12, 19, 13), (0, 12, 23, 15)] 5 := ⟨cm_L_ring, am_G_t (i := 929) (by decide +kernel) rfl, sm_L_ring, in_L, ⟨by decide, by decide, by decide +kernel⟩⟩
theorem cm_L_heard : Cond.codeWith yL_heard cL_heard 5 (some .int) [(0, 10, 13, 24)] ∈ am_G := am_G_t (i := 953) (by decide +kernel) rfl
theorem sm_L_heard : Cond.static yL_heard ∈ am_G := am_G_t (i := 952) (by decide +kernel) rfl
theorem ct_L_172 : am_csH RL 172 yL_heard cL_heard 5 (some .int) [(0, 10, 13, 24)] 4 := ⟨cm_L_heard, am_G_t (i := 951) (by decide +kernel) rfl, sm_L_heard, in_L, ⟨by decide, by decide, by decide +kernel⟩⟩
theorem cm_L_taken : Cond.codeWith yL_taken cL_taken 5 (some .int) [(0, 10, 13, 24)] ∈ am_G := am_G_t (i := 991) (by decide +kernel) rfl
theorem sm_L_taken : Cond.static yL_taken ∈ am_G := am_G_t (i := 990) (by decide +kernel) rfl
theorem ct_L_175 : am_csH RL 175 yL_taken cL_taken 5 (some .int) [(0, 10, 13, 24)] 4 := ⟨cm_L_taken, am_G_t (i := 989) (by decide +kernel) rfl, sm_L_taken, in_L, ⟨by decide, by decide, by decide +kernel⟩⟩
theorem cm_L_sure : Cond.codeWith yL_sure cL_sure 5 (some .int) [(0, 10, 13, 24)] ∈ am_G := am_G_t (i := 1007) (by decide +kernel) rfl
theorem sm_L_sure : Cond.static yL_sure ∈ am_G := am_G_t (i := 1006) (by decide +kernel) rfl
theorem ct_L_178 : am_csH RL 178 yL_sure cL_sure 5 (some .int) [(0, 10, 13, 24)] 4 := ⟨cm_L_sure, am_G_t (i := 1005) (by decide +kernel) rfl, sm_L_sure, in_L, ⟨by decide, by decide, by decide +kernel⟩⟩
theorem cm_L_begins : Cond.codeWith yL_begins cL_begins 4 (some .int) [(0, 9, 12, 24)] ∈ am_G := am_G_t (i := 1019) (by decide +kernel) rfl
theorem sm_L_begins : Cond.static yL_begins ∈ am_G := am_G_t (i := 1018) (by decide +kernel) rfl
theorem ct_L_182 : am_csH RL 182 yL_begins cL_begins 4 (some .int) [(0, 9, 12, 24)] 3 := ⟨cm_L_begins, am_G_t (i := 1017) (by decide +kernel) rfl, sm_L_begins, in_L, ⟨by decide, by decide, by decide +kernel⟩⟩
theorem cm_L_safe : Cond.codeWith yL_safe cL_safe 5 (some .int) [(0, 17, 20, 24), (0, 17, 24, 13)] ∈ am_G := am_G_t (i := 1035) (by decide +kernel) rfl
theorem sm_L_safe : Cond.static yL_safe ∈ am_G := am_G_t (i := 1034) (by decide +kernel) rfl
theorem ct_L_185 : am_csH RL 185 yL_safe cL_safe 5 (some .int) [(0, 17, 20, 24), (0, 17, 24, 13)] 4 := ⟨cm_L_safe, am_G_t (i := 1033) (by decide +kernel) rfl, sm_L_safe, in_L, ⟨by decide, by decide, by decide +kernel⟩⟩
theorem cm_L_buy : Cond.codeWith yL_buy cL_buy 6 (some .int) [(0, 12, 15, 24), (0, 12, 19, 13)] ∈ am_G := am_G_t (i := 1048) (by decide +kernel) rfl
theorem sm_L_buy : Cond.static yL_buy ∈ am_G := am_G_t (i := 1047) (by decide +kernel) rfl
theorem ct_L_188 : am_csH RL 188 yL_buy cL_buy 6 (some .int) [(0, 12, 15, 24), (0, 12, 19, 13)] 5 := ⟨cm_L_buy, am_G_t (i := 1046) (by decide +kernel) rfl, sm_L_buy, in_L, ⟨by decide, by decide, by decide +kernel⟩⟩
theorem cm_L_trade : Cond.codeWith yL_trade cL_trade 5 (some .int) [(0, 7, 10, 24), (0, 7, 14, 13)] ∈ am_G := am_G_t (i := 1059) (by decide +kernel) rfl
theorem sm_L_trade : Cond.static yL_trade ∈ am_G := am_G_t (i := 1058) (by decide +kernel) rfl
theorem ct_L_191 : am_csH RL 191 yL_trade cL_trade 5 (some .int) [(0, 7, 10, 24), (0, 7, 14, 13)] 4 := ⟨cm_L_trade, am_G_t (i := 1057) (by decide +kernel) rfl, sm_L_trade, in_L, ⟨by decide, by decide, by decide +kernel⟩⟩
theorem cm_L_colours : Cond.codeWith yL_colours cL_colours 4 (some .int) [(0, 9, 12, 24)] ∈ am_G := am_G_t (i := 1067) (by decide +kernel) rfl
theorem sm_L_colours : Cond.static yL_colours ∈ am_G := am_G_t (i := 1066) (by decide +kernel) rfl
theorem ct_L_199 : am_csH RL 199 yL_colours cL_colours 4 (some .int) [(0, 9, 12, 24)] 3 := ⟨cm_L_colours, am_G_t (i := 1065) (by decide +kernel) rfl, sm_L_colours, in_L, ⟨by decide, by decide, by decide +kernel⟩⟩
theorem cm_L_relay : Cond.codeWith yL_relay cL_relay 6 (some .int) [(0, 12, 15, 24), (0, 12, 19, 13)] ∈ am_G := am_G_t (i := 1094) (by decide +kernel) rfl
theorem sm_L_relay : Cond.static yL_relay ∈ am_G := am_G_t (i := 1093) (by decide +kernel) rfl
theorem ct_L_202 : am_csH RL 202 yL_relay cL_relay 6 (some .int) [(0, 12, 15, 24), (0, 12, 19, 13)] 5 := ⟨cm_L_relay, am_G_t (i := 1092) (by decide +kernel) rfl, sm_L_relay, in_L, ⟨by decide, by decide, by decide +kernel⟩⟩
theorem cm_L_ringers : Cond.codeWith yL_ringers cL_ringers 5 (some .int) [(0, 10, 13, 24), (0, 10, 17, 13)] ∈ am_G := am_G_t (i := 1127) (by decide +kernel) rfl
theorem sm_L_ringers : Cond.static yL_ringers ∈ am_G := am_G_t (i := 1126) (by decide +kernel) rfl
theorem ct_L_205 : am_csH RL 205 yL_ringers cL_ringers 5 (some .int) [(0, 10, 13, 24), (0, 10, 17, 13)] 4 := ⟨cm_L_ringers, am_G_t (i := 1125) (by decide +kernel) rfl, sm_L_ringers, in_L, ⟨by decide, by decide, by decide +kernel⟩⟩
theorem cm_L_six : Cond.codeWith yL_six cL_six 5 (some .int) [(0, 10, 13, 24), (0, 10, 17, 26)] ∈ am_G := am_G_t (i := 1143) (by decide +kernel) rfl
theorem sm_L_six : Cond.static yL_six ∈ am_G := am_G_t (i := 1142) (by decide +kernel) rfl
theorem ct_L_208 : am_csH RL 208 yL_six cL_six 5 (some .int) [(0, 10, 13, 24), (0, 10, 17, 26)] 4 := ⟨cm_L_six, am_G_t (i := 1141) (by decide +kernel) rfl, sm_L_six, in_L, ⟨by decide, by decide, by decide +kernel⟩⟩
theorem cm_L_lot : Cond.codeWith yL_lot cL_lot 6 (some .int) [(0, 12, 15, 24), (0, 12, 19, 26)] ∈ am_G := am_G_t (i := 1208) (by decide +kernel) rfl
theorem sm_L_lot : Cond.static yL_lot ∈ am_G := am_G_t (i := 1207) (by decide +kernel) rfl
theorem ct_L_211 : am_csH RL 211 yL_lot cL_lot 6 (some .int) [(0, 12, 15, 24), (0, 12, 19, 26)] 5 := ⟨cm_L_lot, am_G_t (i := 1206) (by decide +kernel) rfl, sm_L_lot, in_L, ⟨by decide, by decide, by decide +kernel⟩⟩
theorem cm_L_room : Cond.codeWith yL_room cL_room 6 (some .int) [(0, 12, 15, 24), (0, 12, 19, 13)] ∈ am_G := am_G_t (i := 1233) (by decide +kernel) rfl
theorem sm_L_room : Cond.static yL_room ∈ am_G := am_G_t (i := 1232) (by decide +kernel) rfl
theorem ct_L_214 : am_csH RL 214 yL_room cL_room 6 (some .int) [(0, 12, 15, 24), (0, 12, 19, 13)] 5 := ⟨cm_L_room, am_G_t (i := 1231) (by decide +kernel) rfl, sm_L_room, in_L, ⟨by decide, by decide, by decide +kernel⟩⟩
theorem cm_L_learn : Cond.codeWith yL_learn cL_learn 4 (some .int) [(0, 9, 12, 13)] ∈ am_G := am_G_t (i := 1264) (by decide +kernel) rfl
theorem sm_L_learn : Cond.static yL_learn ∈ am_G := am_G_t (i := 1263) (by decide +kernel) rfl
theorem ct_L_218 : am_csH RL 218 yL_learn cL_learn 4 (some .int) [(0, 9, 12, 13)] 3 := ⟨cm_L_learn, am_G_t (i := 1262) (by decide +kernel) rfl, sm_L_learn, in_L, ⟨by decide, by decide, by decide +kernel⟩⟩
theorem cm_L_fooled : Cond.codeWith yL_fooled cL_fooled 6 (some .int) [(0, 12, 15, 24), (0, 12, 19, 13)] ∈ am_G := am_G_t (i := 1309) (by decide +kernel) rfl
theorem sm_L_fooled : Cond.static yL_fooled ∈ am_G := am_G_t (i := 1308) (by decide +kernel) rfl
theorem ct_L_221 : am_csH RL 221 yL_fooled cL_fooled 6 (some .int) [(0, 12, 15, 24), (0, 12, 19, 13)] 5 := ⟨cm_L_fooled, am_G_t (i := 1307) (by decide +kernel) rfl, sm_L_fooled, in_L, ⟨by decide, by decide, by decide +kernel⟩⟩
theorem cm_L_could : Cond.codeWith yL_could cL_could 5 (some .int) [(0, 10, 13, 24)] ∈ am_G := am_G_t (i := 1323) (by decide +kernel) rfl
theorem sm_L_could : Cond.static yL_could ∈ am_G := am_G_t (i := 1322) (by decide +kernel) rfl
theorem ct_L_224 : am_csH RL 224 yL_could cL_could 5 (some .int) [(0, 10, 13, 24)] 4 := ⟨cm_L_could, am_G_t (i := 1321) (by decide +kernel) rfl, sm_L_could, in_L, ⟨by decide, by decide, by decide +kernel⟩⟩
theorem cm_L_understood : Cond.codeWith yL_understood cL_understood 4 (some .int) [(0, 9, 12, 24)] ∈ am_G := am_G_t (i := 1335) (by decide +kernel) rfl
theorem sm_L_understood : Cond.static yL_understood ∈ am_G := am_G_t (i := 1334) (by decide +kernel) rfl
theorem ct_L_227 : am_csH RL 227 yL_understood cL_understood 4 (some .int) [(0, 9, 12, 24)] 3 := ⟨cm_L_understood, am_G_t (i := 1333) (by decide +kernel) rfl, sm_L_understood, in_L, ⟨by decide, by decide, by decide +kernel⟩⟩
theorem cm_L_quiet : Cond.codeWith yL_quiet cL_quiet 7 (some .int) [(0, 14, 17, 24), (0, 14, 21, 13), (0, 14, 25, 15)] ∈ am_G := am_G_t (i := 1346) (by decide +kernel) rfl
theorem sm_L_quiet : Cond.static yL_quiet ∈ am_G := am_G_t (i := 1345) (by decide +kernel) rfl
theorem ct_L_230 : am_csH RL 230 yL_quiet cL_quiet 7 (some .int) [(0, 14, 17, 24), (0, 14, 21, 13), (0, 14, 25, 15)] 6 := ⟨cm_L_quiet, am_G_t (i := 1344) (by decide +kernel) rfl, sm_L_quiet, in_L, ⟨by decide, by decide, by decide +kernel⟩⟩
theorem cm_L_worth : Cond.codeWith yL_worth cL_worth 6 (some .int) [(0, 12, 15, 24), (0, 12, 19, 13)] ∈ am_G := am_G_t (i := 1363) (by decide +kernel) rfl
theorem sm_L_worth : Cond.static yL_worth ∈ am_G := am_G_t (i := 1362) (by decide +kernel) rfl
theorem ct_L_234 : am_csH RL 234 yL_worth cL_worth 6 (some .int) [(0, 12, 15, 24), (0, 12, 19, 13)] 5 := ⟨cm_L_worth, am_G_t (i := 1361) (by decide +kernel) rfl, sm_L_worth, in_L, ⟨by decide, by decide, by decide +kernel⟩⟩
theorem cm_L_sale : Cond.codeWith yL_sale cL_sale 6 (some .int) [(0, 12, 15, 24), (0, 12, 19, 13)] ∈ am_G := am_G_t (i := 1380) (by decide +kernel) rfl
theorem sm_L_sale : Cond.static yL_sale ∈ am_G := am_G_t (i := 1379) (by decide +kernel) rfl
theorem ct_L_237 : am_csH RL 237 yL_sale cL_sale 6 (some .int) [(0, 12, 15, 24), (0, 12, 19, 13)] 5 := ⟨cm_L_sale, am_G_t (i := 1378) (by decide +kernel) rfl, sm_L_sale, in_L, ⟨by decide, by decide, by decide +kernel⟩⟩
theorem cm_L_evening : Cond.codeWith yL_evening cL_evening 6 (some .int) [(0, 12, 15, 13), (0, 12, 19, 26)] ∈ am_G := am_G_t (i := 1387) (by decide +kernel) rfl
theorem sm_L_evening : Cond.static yL_evening ∈ am_G := am_G_t (i := 1386) (by decide +kernel) rfl
theorem ct_L_240 : am_csH RL 240 yL_evening cL_evening 6 (some .int) [(0, 12, 15, 13), (0, 12, 19, 26)] 5 := ⟨cm_L_evening, am_G_t (i := 1385) (by decide +kernel) rfl, sm_L_evening, in_L, ⟨by decide, by decide, by decide +kernel⟩⟩
theorem cm_X11_quiet : Cond.code yX11_quiet cX11_quiet 6 (some .int) ∈ am_G := am_G_t (i := 1350) (by decide +kernel) rfl
theorem im_X11_quiet : Cond.instanceMethod yX11_quiet ∈ am_G := am_G_t (i := 1348) (by decide +kernel) rfl
theorem se_X11_quiet : Cond.selects yX11_quiet.cls yX11_quiet yX11_quiet ∈ am_G := am_G_t (i := 1349) (by decide +kernel) rfl
theorem cv_L_100 : am_cv RL 100 11 yX11_quiet cX11_quiet 6 (some .int) 4 := ⟨rfl, cm_X11_quiet, am_G_t (i := 1347) (by decide +kernel) rfl, im_X11_quiet, se_X11_quiet, in_X11, ⟨by decide, by decide, by decide +kernel⟩⟩
theorem cm_X11_worth : Cond.code yX11_worth cX11_worth 4 (some .int) ∈ am_G := am_G_t (i := 1367) (by decide +kernel) rfl
theorem im_X11_worth : Cond.instanceMethod yX11_worth ∈ am_G := am_G_t (i := 1365) (by decide +kernel) rfl
theorem se_X11_worth : Cond.selects yX11_worth.cls yX11_worth yX11_worth ∈ am_G := am_G_t (i := 1366) (by decide +kernel) rfl
theorem cv_L_104 : am_cv RL 104 11 yX11_worth cX11_worth 4 (some .int) 3 := ⟨rfl, cm_X11_worth, am_G_t (i := 1364) (by decide +kernel) rfl, im_X11_worth, se_X11_worth, in_X11, ⟨by decide, by decide, by decide +kernel⟩⟩
theorem cm_X11_sale : Cond.code yX11_sale cX11_sale 9 (some .int) ∈ am_G := am_G_t (i := 1384) (by decide +kernel) rfl
theorem im_X11_sale : Cond.instanceMethod yX11_sale ∈ am_G := am_G_t (i := 1382) (by decide +kernel) rfl
theorem se_X11_sale : Cond.selects yX11_sale.cls yX11_sale yX11_sale ∈ am_G := am_G_t (i := 1383) (by decide +kernel) rfl
theorem cv_L_107 : am_cv RL 107 11 yX11_sale cX11_sale 9 (some .int) 3 := ⟨rfl, cm_X11_sale, am_G_t (i := 1381) (by decide +kernel) rfl, im_X11_sale, se_X11_sale, in_X11, ⟨by decide, by decide, by decide +kernel⟩⟩
theorem cm_X11_evening : Cond.code yX11_evening cX11_evening 4 (some .int) ∈ am_G := am_G_t (i := 1391) (by decide +kernel) rfl
theorem im_X11_evening : Cond.instanceMethod yX11_evening ∈ am_G := am_G_t (i := 1389) (by decide +kernel) rfl
theorem se_X11_evening : Cond.selects yX11_evening.cls yX11_evening yX11_evening ∈ am_G := am_G_t (i := 1390) (by decide +kernel) rfl
theorem cv_L_110 : am_cv RL 110 11 yX11_evening cX11_evening 4 (some .int) 3 := ⟨rfl, cm_X11_evening, am_G_t (i := 1388) (by decide +kernel) rfl, im_X11_evening, se_X11_evening, in_X11, ⟨by decide, by decide, by decide +kernel⟩⟩
theorem cm_X11_feed : Cond.code yX11_feed cX11_feed 6 (some .int) ∈ am_G := am_G_t (i := 428) (by decide +kernel) rfl
theorem im_X11_feed : Cond.instanceMethod yX11_feed ∈ am_G := am_G_t (i := 426) (by decide +kernel) rfl
theorem se_X11_feed : Cond.selects yX11_feed.cls yX11_feed yX11_feed ∈ am_G := am_G_t (i := 427) (by decide +kernel) rfl
theorem cv_L_117 : am_cv RL 117 11 yX11_feed cX11_feed 6 (some .int) 5 := ⟨rfl, cm_X11_feed, am_G_t (i := 425) (by decide +kernel) rfl, im_X11_feed, se_X11_feed, in_X11, ⟨by decide, by decide, by decide +kernel⟩⟩
theorem cm_X12_feed : Cond.code yX12_feed cX12_feed 7 (some .int) ∈ am_G := am_G_t (i := 1510) (by decide +kernel) rfl
theorem im_X12_feed : Cond.instanceMethod yX12_feed ∈ am_G := am_G_t (i := 1508) (by decide +kernel) rfl
theorem se_X12_feed : Cond.selects yX12_feed.cls yX12_feed yX12_feed ∈ am_G := am_G_t (i := 1509) (by decide +kernel) rfl
theorem cv_L_121 : am_cv RL 121 12 yX12_feed cX12_feed 7 (some .int) 5 := ⟨rfl, cm_X12_feed, am_G_t (i := 1507) (by decide +kernel) rfl, im_X12_feed, se_X12_feed, in_X12, ⟨by decide, by decide, by decide +kernel⟩⟩
theorem cm_X11_end : Cond.code yX11_end cX11_end 2 (some .boolean) ∈ am_G := am_G_t (i := 436) (by decide +kernel) rfl
theorem im_X11_end : Cond.instanceMethod yX11_end ∈ am_G := am_G_t (i := 434) (by decide +kernel) rfl
theorem se_X11_end : Cond.selects yX11_end.cls yX11_end yX11_end ∈ am_G := am_G_t (i := 435) (by decide +kernel) rfl
theorem cv_L_122 : am_cv RL 122 11 yX11_end cX11_end 2 (some .boolean) 1 := ⟨rfl, cm_X11_end, am_G_t (i := 433) (by decide +kernel) rfl, im_X11_end, se_X11_end, in_X11, ⟨by decide, by decide, by decide +kernel⟩⟩
theorem cm_X12_end : Cond.code yX12_end cX12_end 2 (some .boolean) ∈ am_G := am_G_t (i := 1514) (by decide +kernel) rfl
theorem im_X12_end : Cond.instanceMethod yX12_end ∈ am_G := am_G_t (i := 1512) (by decide +kernel) rfl
theorem se_X12_end : Cond.selects yX12_end.cls yX12_end yX12_end ∈ am_G := am_G_t (i := 1513) (by decide +kernel) rfl
theorem cv_L_126 : am_cv RL 126 12 yX12_end cX12_end 2 (some .boolean) 1 := ⟨rfl, cm_X12_end, am_G_t (i := 1511) (by decide +kernel) rfl, im_X12_end, se_X12_end, in_X12, ⟨by decide, by decide, by decide +kernel⟩⟩
theorem cm_X12_town : Cond.code yX12_town cX12_town 3 (some .int) ∈ am_G := am_G_t (i := 1522) (by decide +kernel) rfl
theorem im_X12_town : Cond.instanceMethod yX12_town ∈ am_G := am_G_t (i := 1520) (by decide +kernel) rfl
theorem se_X12_town : Cond.selects yX12_town.cls yX12_town yX12_town ∈ am_G := am_G_t (i := 1521) (by decide +kernel) rfl
theorem cv_L_132 : am_cv RL 132 12 yX12_town cX12_town 3 (some .int) 0 := ⟨rfl, cm_X12_town, am_G_t (i := 1519) (by decide +kernel) rfl, im_X12_town, se_X12_town, in_X12, ⟨by decide, by decide, by decide +kernel⟩⟩
theorem cm_X12_thrown : Cond.code yX12_thrown cX12_thrown 1 (some .int) ∈ am_G := am_G_t (i := 1407) (by decide +kernel) rfl
theorem im_X12_thrown : Cond.instanceMethod yX12_thrown ∈ am_G := am_G_t (i := 1405) (by decide +kernel) rfl
theorem se_X12_thrown : Cond.selects yX12_thrown.cls yX12_thrown yX12_thrown ∈ am_G := am_G_t (i := 1406) (by decide +kernel) rfl
theorem cv_L_133 : am_cv RL 133 12 yX12_thrown cX12_thrown 1 (some .int) 0 := ⟨rfl, cm_X12_thrown, am_G_t (i := 1404) (by decide +kernel) rfl, im_X12_thrown, se_X12_thrown, in_X12, ⟨by decide, by decide, by decide +kernel⟩⟩
theorem cm_X12_law : Cond.code yX12_law cX12_law 3 (some .int) ∈ am_G := am_G_t (i := 1655) (by decide +kernel) rfl
theorem im_X12_law : Cond.instanceMethod yX12_law ∈ am_G := am_G_t (i := 1653) (by decide +kernel) rfl
theorem se_X12_law : Cond.selects yX12_law.cls yX12_law yX12_law ∈ am_G := am_G_t (i := 1654) (by decide +kernel) rfl
theorem cv_L_138 : am_cv RL 138 12 yX12_law cX12_law 3 (some .int) 0 := ⟨rfl, cm_X12_law, am_G_t (i := 1652) (by decide +kernel) rfl, im_X12_law, se_X12_law, in_X12, ⟨by decide, by decide, by decide +kernel⟩⟩
theorem cm_X11_fault : Cond.code yX11_fault cX11_fault 1 (some .int) ∈ am_G := am_G_t (i := 440) (by decide +kernel) rfl
theorem im_X11_fault : Cond.instanceMethod yX11_fault ∈ am_G := am_G_t (i := 438) (by decide +kernel) rfl
theorem se_X11_fault : Cond.selects yX11_fault.cls yX11_fault yX11_fault ∈ am_G := am_G_t (i := 439) (by decide +kernel) rfl
theorem cv_L_139 : am_cv RL 139 11 yX11_fault cX11_fault 1 (some .int) 0 := ⟨rfl, cm_X11_fault, am_G_t (i := 437) (by decide +kernel) rfl, im_X11_fault, se_X11_fault, in_X11, ⟨by decide, by decide, by decide +kernel⟩⟩
theorem cm_X12_fault : Cond.code yX12_fault cX12_fault 1 (some .int) ∈ am_G := am_G_t (i := 1518) (by decide +kernel) rfl
theorem im_X12_fault : Cond.instanceMethod yX12_fault ∈ am_G := am_G_t (i := 1516) (by decide +kernel) rfl
theorem se_X12_fault : Cond.selects yX12_fault.cls yX12_fault yX12_fault ∈ am_G := am_G_t (i := 1517) (by decide +kernel) rfl
theorem cv_L_142 : am_cv RL 142 12 yX12_fault cX12_fault 1 (some .int) 0 := ⟨rfl, cm_X12_fault, am_G_t (i := 1515) (by decide +kernel) rfl, im_X12_fault, se_X12_fault, in_X12, ⟨by decide, by decide, by decide +kernel⟩⟩
theorem cm_X12_house : Cond.code yX12_house cX12_house 3 (some .int) ∈ am_G := am_G_t (i := 1659) (by decide +kernel) rfl
theorem im_X12_house : Cond.instanceMethod yX12_house ∈ am_G := am_G_t (i := 1657) (by decide +kernel) rfl
theorem se_X12_house : Cond.selects yX12_house.cls yX12_house yX12_house ∈ am_G := am_G_t (i := 1658) (by decide +kernel) rfl
theorem cv_L_146 : am_cv RL 146 12 yX12_house cX12_house 3 (some .int) 2 := ⟨rfl, cm_X12_house, am_G_t (i := 1656) (by decide +kernel) rfl, im_X12_house, se_X12_house, in_X12, ⟨by decide, by decide, by decide +kernel⟩⟩
theorem cm_X12_want : Cond.code yX12_want cX12_want 2 (some .int) ∈ am_G := am_G_t (i := 1679) (by decide +kernel) rfl
theorem im_X12_want : Cond.instanceMethod yX12_want ∈ am_G := am_G_t (i := 1677) (by decide +kernel) rfl
theorem se_X12_want : Cond.selects yX12_want.cls yX12_want yX12_want ∈ am_G := am_G_t (i := 1678) (by decide +kernel) rfl
theorem cv_L_150 : am_cv RL 150 12 yX12_want cX12_want 2 (some .int) 1 := ⟨rfl, cm_X12_want, am_G_t (i := 1676) (by decide +kernel) rfl, im_X12_want, se_X12_want, in_X12, ⟨by decide, by decide, by decide +kernel⟩⟩
theorem cm_X12_code : Cond.code yX12_code cX12_code 3 (some .int) ∈ am_G := am_G_t (i := 1691) (by decide +kernel) rfl
theorem im_X12_code : Cond.instanceMethod yX12_code ∈ am_G := am_G_t (i := 1689) (by decide +kernel) rfl
theorem se_X12_code : Cond.selects yX12_code.cls yX12_code yX12_code ∈ am_G := am_G_t (i := 1690) (by decide +kernel) rfl
theorem cv_L_153 : am_cv RL 153 12 yX12_code cX12_code 3 (some .int) 2 := ⟨rfl, cm_X12_code, am_G_t (i := 1688) (by decide +kernel) rfl, im_X12_code, se_X12_code, in_X12, ⟨by decide, by decide, by decide +kernel⟩⟩
theorem cm_X12_cost : Cond.code yX12_cost cX12_cost 2 (some .int) ∈ am_G := am_G_t (i := 1695) (by decide +kernel) rfl
theorem im_X12_cost : Cond.instanceMethod yX12_cost ∈ am_G := am_G_t (i := 1693) (by decide +kernel) rfl
theorem se_X12_cost : Cond.selects yX12_cost.cls yX12_cost yX12_cost ∈ am_G := am_G_t (i := 1694) (by decide +kernel) rfl
theorem cv_L_156 : am_cv RL 156 12 yX12_cost cX12_cost 2 (some .int) 1 := ⟨rfl, cm_X12_cost, am_G_t (i := 1692) (by decide +kernel) rfl, im_X12_cost, se_X12_cost, in_X12, ⟨by decide, by decide, by decide +kernel⟩⟩
theorem cm_X12_way : Cond.code yX12_way cX12_way 4 (some .int) ∈ am_G := am_G_t (i := 1706) (by decide +kernel) rfl
theorem im_X12_way : Cond.instanceMethod yX12_way ∈ am_G := am_G_t (i := 1704) (by decide +kernel) rfl
theorem se_X12_way : Cond.selects yX12_way.cls yX12_way yX12_way ∈ am_G := am_G_t (i := 1705) (by decide +kernel) rfl
theorem cv_L_160 : am_cv RL 160 12 yX12_way cX12_way 4 (some .int) 3 := ⟨rfl, cm_X12_way, am_G_t (i := 1703) (by decide +kernel) rfl, im_X12_way, se_X12_way, in_X12, ⟨by decide, by decide, by decide +kernel⟩⟩
theorem cm_X12_ring : Cond.code yX12_ring cX12_ring 4 (some .int) ∈ am_G := am_G_t (i := 1727) (by decide +kernel) rfl
theorem im_X12_ring : Cond.instanceMethod yX12_ring ∈ am_G := am_G_t (i := 1725) (by decide +kernel) rfl
theorem se_X12_ring : Cond.selects yX12_ring.cls yX12_ring yX12_ring ∈ am_G := am_G_t (i := 1726) (by decide +kernel) rfl
theorem cv_L_163 : am_cv RL 163 12 yX12_ring cX12_ring 4 (some .int) 3 := ⟨rfl, cm_X12_ring, am_G_t (i := 1724) (by decide +kernel) rfl, im_X12_ring, se_X12_ring, in_X12, ⟨by decide, by decide, by decide +kernel⟩⟩
theorem cm_X11_hush : Cond.code yX11_hush cX11_hush 2 (some .int) ∈ am_G := am_G_t (i := 444) (by decide +kernel) rfl
theorem im_X11_hush : Cond.instanceMethod yX11_hush ∈ am_G := am_G_t (i := 442) (by decide +kernel) rfl
theorem se_X11_hush : Cond.selects yX11_hush.cls yX11_hush yX11_hush ∈ am_G := am_G_t (i := 443) (by decide +kernel) rfl
theorem cv_L_164 : am_cv RL 164 11 yX11_hush cX11_hush 2 (some .int) 0 := ⟨rfl, cm_X11_hush, am_G_t (i := 441) (by decide +kernel) rfl, im_X11_hush, se_X11_hush, in_X11, ⟨by decide, by decide, by decide +kernel⟩⟩
theorem cm_X12_hush : Cond.code yX12_hush cX12_hush 2 (some .int) ∈ am_G := am_G_t (i := 1735) (by decide +kernel) rfl
theorem im_X12_hush : Cond.instanceMethod yX12_hush ∈ am_G := am_G_t (i := 1733) (by decide +kernel) rfl
theorem se_X12_hush : Cond.selects yX12_hush.cls yX12_hush yX12_hush ∈ am_G := am_G_t (i := 1734) (by decide +kernel) rfl
theorem cv_L_167 : am_cv RL 167 12 yX12_hush cX12_hush 2 (some .int) 0 := ⟨rfl, cm_X12_hush, am_G_t (i := 1732) (by decide +kernel) rfl, im_X12_hush, se_X12_hush, in_X12, ⟨by decide, by decide, by decide +kernel⟩⟩
theorem cm_X11_undo : Cond.code yX11_undo cX11_undo 1 (some .int) ∈ am_G := am_G_t (i := 448) (by decide +kernel) rfl
theorem im_X11_undo : Cond.instanceMethod yX11_undo ∈ am_G := am_G_t (i := 446) (by decide +kernel) rfl
theorem se_X11_undo : Cond.selects yX11_undo.cls yX11_undo yX11_undo ∈ am_G := am_G_t (i := 447) (by decide +kernel) rfl
theorem cv_L_168 : am_cv RL 168 11 yX11_undo cX11_undo 1 (some .int) 0 := ⟨rfl, cm_X11_undo, am_G_t (i := 445) (by decide +kernel) rfl, im_X11_undo, se_X11_undo, in_X11, ⟨by decide, by decide, by decide +kernel⟩⟩
theorem cm_X11_law : Cond.code yX11_law cX11_law 1 (some .int) ∈ am_G := am_G_t (i := 770) (by decide +kernel) rfl
theorem im_X11_law : Cond.instanceMethod yX11_law ∈ am_G := am_G_t (i := 768) (by decide +kernel) rfl
theorem se_X11_law : Cond.selects yX11_law.cls yX11_law yX11_law ∈ am_G := am_G_t (i := 769) (by decide +kernel) rfl
theorem cv_L_17 : am_cv RL 17 11 yX11_law cX11_law 1 (some .int) 0 := ⟨rfl, cm_X11_law, am_G_t (i := 767) (by decide +kernel) rfl, im_X11_law, se_X11_law, in_X11, ⟨by decide, by decide, by decide +kernel⟩⟩
theorem cm_X12_undo : Cond.code yX12_undo cX12_undo 1 (some .int) ∈ am_G := am_G_t (i := 1739) (by decide +kernel) rfl
theorem im_X12_undo : Cond.instanceMethod yX12_undo ∈ am_G := am_G_t (i := 1737) (by decide +kernel) rfl
theorem se_X12_undo : Cond.selects yX12_undo.cls yX12_undo yX12_undo ∈ am_G := am_G_t (i := 1738) (by decide +kernel) rfl
theorem cv_L_171 : am_cv RL 171 12 yX12_undo cX12_undo 1 (some .int) 0 := ⟨rfl, cm_X12_undo, am_G_t (i := 1736) (by decide +kernel) rfl, im_X12_undo, se_X12_undo, in_X12, ⟨by decide, by decide, by decide +kernel⟩⟩
theorem cm_X12_heard : Cond.code yX12_heard cX12_heard 3 (some .int) ∈ am_G := am_G_t (i := 1743) (by decide +kernel) rfl
theorem im_X12_heard : Cond.instanceMethod yX12_heard ∈ am_G := am_G_t (i := 1741) (by decide +kernel) rfl
theorem se_X12_heard : Cond.selects yX12_heard.cls yX12_heard yX12_heard ∈ am_G := am_G_t (i := 1742) (by decide +kernel) rfl
theorem cv_L_174 : am_cv RL 174 12 yX12_heard cX12_heard 3 (some .int) 2 := ⟨rfl, cm_X12_heard, am_G_t (i := 1740) (by decide +kernel) rfl, im_X12_heard, se_X12_heard, in_X12, ⟨by decide, by decide, by decide +kernel⟩⟩
theorem cm_X12_taken : Cond.code yX12_taken cX12_taken 3 (some .int) ∈ am_G := am_G_t (i := 1771) (by decide +kernel) rfl
theorem im_X12_taken : Cond.instanceMethod yX12_taken ∈ am_G := am_G_t (i := 1769) (by decide +kernel) rfl
theorem se_X12_taken : Cond.selects yX12_taken.cls yX12_taken yX12_taken ∈ am_G := am_G_t (i := 1770) (by decide +kernel) rfl
theorem cv_L_177 : am_cv RL 177 12 yX12_taken cX12_taken 3 (some .int) 2 := ⟨rfl, cm_X12_taken, am_G_t (i := 1768) (by decide +kernel) rfl, im_X12_taken, se_X12_taken, in_X12, ⟨by decide, by decide, by decide +kernel⟩⟩
theorem cm_X12_sure : Cond.code yX12_sure cX12_sure 3 (some .int) ∈ am_G := am_G_t (i := 1779) (by decide +kernel) rfl
theorem im_X12_sure : Cond.instanceMethod yX12_sure ∈ am_G := am_G_t (i := 1777) (by decide +kernel) rfl
theorem se_X12_sure : Cond.selects yX12_sure.cls yX12_sure yX12_sure ∈ am_G := am_G_t (i := 1778) (by decide +kernel) rfl
theorem cv_L_181 : am_cv RL 181 12 yX12_sure cX12_sure 3 (some .int) 2 := ⟨rfl, cm_X12_sure, am_G_t (i := 1776) (by decide +kernel) rfl, im_X12_sure, se_X12_sure, in_X12, ⟨by decide, by decide, by decide +kernel⟩⟩
theorem cm_X12_begins : Cond.code yX12_begins cX12_begins 2 (some .int) ∈ am_G := am_G_t (i := 1812) (by decide +kernel) rfl
theorem im_X12_begins : Cond.instanceMethod yX12_begins ∈ am_G := am_G_t (i := 1810) (by decide +kernel) rfl
theorem se_X12_begins : Cond.selects yX12_begins.cls yX12_begins yX12_begins ∈ am_G := am_G_t (i := 1811) (by decide +kernel) rfl
theorem cv_L_184 : am_cv RL 184 12 yX12_begins cX12_begins 2 (some .int) 1 := ⟨rfl, cm_X12_begins, am_G_t (i := 1809) (by decide +kernel) rfl, im_X12_begins, se_X12_begins, in_X12, ⟨by decide, by decide, by decide +kernel⟩⟩
theorem cm_X12_safe : Cond.code yX12_safe cX12_safe 6 (some .boolean) ∈ am_G := am_G_t (i := 1820) (by decide +kernel) rfl
theorem im_X12_safe : Cond.instanceMethod yX12_safe ∈ am_G := am_G_t (i := 1818) (by decide +kernel) rfl
theorem se_X12_safe : Cond.selects yX12_safe.cls yX12_safe yX12_safe ∈ am_G := am_G_t (i := 1819) (by decide +kernel) rfl
theorem cv_L_187 : am_cv RL 187 12 yX12_safe cX12_safe 6 (some .boolean) 2 := ⟨rfl, cm_X12_safe, am_G_t (i := 1817) (by decide +kernel) rfl, im_X12_safe, se_X12_safe, in_X12, ⟨by decide, by decide, by decide +kernel⟩⟩
theorem cm_X12_buy : Cond.code yX12_buy cX12_buy 5 (some .int) ∈ am_G := am_G_t (i := 1824) (by decide +kernel) rfl
theorem im_X12_buy : Cond.instanceMethod yX12_buy ∈ am_G := am_G_t (i := 1822) (by decide +kernel) rfl
theorem se_X12_buy : Cond.selects yX12_buy.cls yX12_buy yX12_buy ∈ am_G := am_G_t (i := 1823) (by decide +kernel) rfl
theorem cv_L_190 : am_cv RL 190 12 yX12_buy cX12_buy 5 (some .int) 3 := ⟨rfl, cm_X12_buy, am_G_t (i := 1821) (by decide +kernel) rfl, im_X12_buy, se_X12_buy, in_X12, ⟨by decide, by decide, by decide +kernel⟩⟩
theorem cm_X12_trade : Cond.code yX12_trade cX12_trade 5 none ∈ am_G := am_G_t (i := 1828) (by decide +kernel) rfl
theorem im_X12_trade : Cond.instanceMethod yX12_trade ∈ am_G := am_G_t (i := 1826) (by decide +kernel) rfl
theorem se_X12_trade : Cond.selects yX12_trade.cls yX12_trade yX12_trade ∈ am_G := am_G_t (i := 1827) (by decide +kernel) rfl
theorem cv_L_194 : am_cv RL 194 12 yX12_trade cX12_trade 5 none 3 := ⟨rfl, cm_X12_trade, am_G_t (i := 1825) (by decide +kernel) rfl, im_X12_trade, se_X12_trade, in_X12, ⟨by decide, by decide, by decide +kernel⟩⟩
theorem cm_X11_least : Cond.code yX11_least cX11_least 2 (some .int) ∈ am_G := am_G_t (i := 452) (by decide +kernel) rfl
theorem im_X11_least : Cond.instanceMethod yX11_least ∈ am_G := am_G_t (i := 450) (by decide +kernel) rfl
theorem se_X11_least : Cond.selects yX11_least.cls yX11_least yX11_least ∈ am_G := am_G_t (i := 451) (by decide +kernel) rfl
theorem cv_L_195 : am_cv RL 195 11 yX11_least cX11_least 2 (some .int) 1 := ⟨rfl, cm_X11_least, am_G_t (i := 449) (by decide +kernel) rfl, im_X11_least, se_X11_least, in_X11, ⟨by decide, by decide, by decide +kernel⟩⟩
theorem cm_X12_least : Cond.code yX12_least cX12_least 5 (some .int) ∈ am_G := am_G_t (i := 1832) (by decide +kernel) rfl
theorem im_X12_least : Cond.instanceMethod yX12_least ∈ am_G := am_G_t (i := 1830) (by decide +kernel) rfl
theorem se_X12_least : Cond.selects yX12_least.cls yX12_least yX12_least ∈ am_G := am_G_t (i := 1831) (by decide +kernel) rfl
theorem cv_L_198 : am_cv RL 198 12 yX12_least cX12_least 5 (some .int) 1 := ⟨rfl, cm_X12_least, am_G_t (i := 1829) (by decide +kernel) rfl, im_X12_least, se_X12_least, in_X12, ⟨by decide, by decide, by decide +kernel⟩⟩
theorem cm_X11_house : Cond.code yX11_house cX11_house 3 (some .int) ∈ am_G := am_G_t (i := 838) (by decide +kernel) rfl
theorem im_X11_house : Cond.instanceMethod yX11_house ∈ am_G := am_G_t (i := 836) (by decide +kernel) rfl
theorem se_X11_house : Cond.selects yX11_house.cls yX11_house yX11_house ∈ am_G := am_G_t (i := 837) (by decide +kernel) rfl
theorem cv_L_20 : am_cv RL 20 11 yX11_house cX11_house 3 (some .int) 2 := ⟨rfl, cm_X11_house, am_G_t (i := 835) (by decide +kernel) rfl, im_X11_house, se_X11_house, in_X11, ⟨by decide, by decide, by decide +kernel⟩⟩
theorem cm_X12_colours : Cond.code yX12_colours cX12_colours 3 (some .int) ∈ am_G := am_G_t (i := 1840) (by decide +kernel) rfl
theorem im_X12_colours : Cond.instanceMethod yX12_colours ∈ am_G := am_G_t (i := 1838) (by decide +kernel) rfl
theorem se_X12_colours : Cond.selects yX12_colours.cls yX12_colours yX12_colours ∈ am_G := am_G_t (i := 1839) (by decide +kernel) rfl
theorem cv_L_201 : am_cv RL 201 12 yX12_colours cX12_colours 3 (some .int) 1 := ⟨rfl, cm_X12_colours, am_G_t (i := 1837) (by decide +kernel) rfl, im_X12_colours, se_X12_colours, in_X12, ⟨by decide, by decide, by decide +kernel⟩⟩
theorem cm_X12_relay : Cond.code yX12_relay cX12_relay 4 (some .int) ∈ am_G := am_G_t (i := 1852) (by decide +kernel) rfl
theorem im_X12_relay : Cond.instanceMethod yX12_relay ∈ am_G := am_G_t (i := 1850) (by decide +kernel) rfl
theorem se_X12_relay : Cond.selects yX12_relay.cls yX12_relay yX12_relay ∈ am_G := am_G_t (i := 1851) (by decide +kernel) rfl
theorem cv_L_204 : am_cv RL 204 12 yX12_relay cX12_relay 4 (some .int) 3 := ⟨rfl, cm_X12_relay, am_G_t (i := 1849) (by decide +kernel) rfl, im_X12_relay, se_X12_relay, in_X12, ⟨by decide, by decide, by decide +kernel⟩⟩
theorem cm_X12_ringers : Cond.code yX12_ringers cX12_ringers 7 (some .int) ∈ am_G := am_G_t (i := 1860) (by decide +kernel) rfl
theorem im_X12_ringers : Cond.instanceMethod yX12_ringers ∈ am_G := am_G_t (i := 1858) (by decide +kernel) rfl
theorem se_X12_ringers : Cond.selects yX12_ringers.cls yX12_ringers yX12_ringers ∈ am_G := am_G_t (i := 1859) (by decide +kernel) rfl
theorem cv_L_207 : am_cv RL 207 12 yX12_ringers cX12_ringers 7 (some .int) 2 := ⟨rfl, cm_X12_ringers, am_G_t (i := 1857) (by decide +kernel) rfl, im_X12_ringers, se_X12_ringers, in_X12, ⟨by decide, by decide, by decide +kernel⟩⟩
theorem cm_X12_six : Cond.code yX12_six cX12_six 3 (some .int) ∈ am_G := am_G_t (i := 1864) (by decide +kernel) rfl
theorem im_X12_six : Cond.instanceMethod yX12_six ∈ am_G := am_G_t (i := 1862) (by decide +kernel) rfl
theorem se_X12_six : Cond.selects yX12_six.cls yX12_six yX12_six ∈ am_G := am_G_t (i := 1863) (by decide +kernel) rfl
theorem cv_L_210 : am_cv RL 210 12 yX12_six cX12_six 3 (some .int) 2 := ⟨rfl, cm_X12_six, am_G_t (i := 1861) (by decide +kernel) rfl, im_X12_six, se_X12_six, in_X12, ⟨by decide, by decide, by decide +kernel⟩⟩
theorem cm_X12_lot : Cond.code yX12_lot cX12_lot 8 (some .int) ∈ am_G := am_G_t (i := 1896) (by decide +kernel) rfl
theorem im_X12_lot : Cond.instanceMethod yX12_lot ∈ am_G := am_G_t (i := 1894) (by decide +kernel) rfl
theorem se_X12_lot : Cond.selects yX12_lot.cls yX12_lot yX12_lot ∈ am_G := am_G_t (i := 1895) (by decide +kernel) rfl
theorem cv_L_213 : am_cv RL 213 12 yX12_lot cX12_lot 8 (some .int) 3 := ⟨rfl, cm_X12_lot, am_G_t (i := 1893) (by decide +kernel) rfl, im_X12_lot, se_X12_lot, in_X12, ⟨by decide, by decide, by decide +kernel⟩⟩
theorem cm_X12_room : Cond.code yX12_room cX12_room 11 (some .int) ∈ am_G := am_G_t (i := 1900) (by decide +kernel) rfl
theorem im_X12_room : Cond.instanceMethod yX12_room ∈ am_G := am_G_t (i := 1898) (by decide +kernel) rfl
theorem se_X12_room : Cond.selects yX12_room.cls yX12_room yX12_room ∈ am_G := am_G_t (i := 1899) (by decide +kernel) rfl
theorem cv_L_217 : am_cv RL 217 12 yX12_room cX12_room 11 (some .int) 3 := ⟨rfl, cm_X12_room, am_G_t (i := 1897) (by decide +kernel) rfl, im_X12_room, se_X12_room, in_X12, ⟨by decide, by decide, by decide +kernel⟩⟩
theorem cm_X12_learn : Cond.code yX12_learn cX12_learn 9 (some .int) ∈ am_G := am_G_t (i := 1925) (by decide +kernel) rfl
theorem im_X12_learn : Cond.instanceMethod yX12_learn ∈ am_G := am_G_t (i := 1923) (by decide +kernel) rfl
theorem se_X12_learn : Cond.selects yX12_learn.cls yX12_learn yX12_learn ∈ am_G := am_G_t (i := 1924) (by decide +kernel) rfl
theorem cv_L_220 : am_cv RL 220 12 yX12_learn cX12_learn 9 (some .int) 1 := ⟨rfl, cm_X12_learn, am_G_t (i := 1922) (by decide +kernel) rfl, im_X12_learn, se_X12_learn, in_X12, ⟨by decide, by decide, by decide +kernel⟩⟩
theorem cm_X12_fooled : Cond.code yX12_fooled cX12_fooled 6 (some .int) ∈ am_G := am_G_t (i := 1941) (by decide +kernel) rfl
theorem im_X12_fooled : Cond.instanceMethod yX12_fooled ∈ am_G := am_G_t (i := 1939) (by decide +kernel) rfl
theorem se_X12_fooled : Cond.selects yX12_fooled.cls yX12_fooled yX12_fooled ∈ am_G := am_G_t (i := 1940) (by decide +kernel) rfl
theorem cv_L_223 : am_cv RL 223 12 yX12_fooled cX12_fooled 6 (some .int) 3 := ⟨rfl, cm_X12_fooled, am_G_t (i := 1938) (by decide +kernel) rfl, im_X12_fooled, se_X12_fooled, in_X12, ⟨by decide, by decide, by decide +kernel⟩⟩
theorem cm_X12_could : Cond.code yX12_could cX12_could 7 (some .int) ∈ am_G := am_G_t (i := 1787) (by decide +kernel) rfl
theorem im_X12_could : Cond.instanceMethod yX12_could ∈ am_G := am_G_t (i := 1785) (by decide +kernel) rfl
theorem se_X12_could : Cond.selects yX12_could.cls yX12_could yX12_could ∈ am_G := am_G_t (i := 1786) (by decide +kernel) rfl
theorem cv_L_226 : am_cv RL 226 12 yX12_could cX12_could 7 (some .int) 2 := ⟨rfl, cm_X12_could, am_G_t (i := 1784) (by decide +kernel) rfl, im_X12_could, se_X12_could, in_X12, ⟨by decide, by decide, by decide +kernel⟩⟩
theorem cm_X12_understood : Cond.code yX12_understood cX12_understood 6 (some .int) ∈ am_G := am_G_t (i := 1794) (by decide +kernel) rfl
theorem im_X12_understood : Cond.instanceMethod yX12_understood ∈ am_G := am_G_t (i := 1792) (by decide +kernel) rfl
theorem se_X12_understood : Cond.selects yX12_understood.cls yX12_understood yX12_understood ∈ am_G := am_G_t (i := 1793) (by decide +kernel) rfl
theorem cv_L_229 : am_cv RL 229 12 yX12_understood cX12_understood 6 (some .int) 1 := ⟨rfl, cm_X12_understood, am_G_t (i := 1791) (by decide +kernel) rfl, im_X12_understood, se_X12_understood, in_X12, ⟨by decide, by decide, by decide +kernel⟩⟩
theorem cm_X12_quiet : Cond.code yX12_quiet cX12_quiet 9 (some .int) ∈ am_G := am_G_t (i := 1798) (by decide +kernel) rfl
theorem im_X12_quiet : Cond.instanceMethod yX12_quiet ∈ am_G := am_G_t (i := 1796) (by decide +kernel) rfl
theorem se_X12_quiet : Cond.selects yX12_quiet.cls yX12_quiet yX12_quiet ∈ am_G := am_G_t (i := 1797) (by decide +kernel) rfl
theorem cv_L_233 : am_cv RL 233 12 yX12_quiet cX12_quiet 9 (some .int) 4 := ⟨rfl, cm_X12_quiet, am_G_t (i := 1795) (by decide +kernel) rfl, im_X12_quiet, se_X12_quiet, in_X12, ⟨by decide, by decide, by decide +kernel⟩⟩
theorem cm_X12_worth : Cond.code yX12_worth cX12_worth 4 (some .int) ∈ am_G := am_G_t (i := 1912) (by decide +kernel) rfl
theorem im_X12_worth : Cond.instanceMethod yX12_worth ∈ am_G := am_G_t (i := 1910) (by decide +kernel) rfl
theorem se_X12_worth : Cond.selects yX12_worth.cls yX12_worth yX12_worth ∈ am_G := am_G_t (i := 1911) (by decide +kernel) rfl
theorem cv_L_236 : am_cv RL 236 12 yX12_worth cX12_worth 4 (some .int) 3 := ⟨rfl, cm_X12_worth, am_G_t (i := 1909) (by decide +kernel) rfl, im_X12_worth, se_X12_worth, in_X12, ⟨by decide, by decide, by decide +kernel⟩⟩
theorem cm_X12_sale : Cond.code yX12_sale cX12_sale 8 (some .int) ∈ am_G := am_G_t (i := 1921) (by decide +kernel) rfl
theorem im_X12_sale : Cond.instanceMethod yX12_sale ∈ am_G := am_G_t (i := 1919) (by decide +kernel) rfl
theorem se_X12_sale : Cond.selects yX12_sale.cls yX12_sale yX12_sale ∈ am_G := am_G_t (i := 1920) (by decide +kernel) rfl
theorem cv_L_239 : am_cv RL 239 12 yX12_sale cX12_sale 8 (some .int) 3 := ⟨rfl, cm_X12_sale, am_G_t (i := 1918) (by decide +kernel) rfl, im_X12_sale, se_X12_sale, in_X12, ⟨by decide, by decide, by decide +kernel⟩⟩
theorem cm_X12_evening : Cond.code yX12_evening cX12_evening 9 (some .int) ∈ am_G := am_G_t (i := 1803) (by decide +kernel) rfl
theorem im_X12_evening : Cond.instanceMethod yX12_evening ∈ am_G := am_G_t (i := 1801) (by decide +kernel) rfl
theorem se_X12_evening : Cond.selects yX12_evening.cls yX12_evening yX12_evening ∈ am_G := am_G_t (i := 1802) (by decide +kernel) rfl
theorem cv_L_242 : am_cv RL 242 12 yX12_evening cX12_evening 9 (some .int) 3 := ⟨rfl, cm_X12_evening, am_G_t (i := 1800) (by decide +kernel) rfl, im_X12_evening, se_X12_evening, in_X12, ⟨by decide, by decide, by decide +kernel⟩⟩
theorem cm_X11_image : Cond.code yX11_image cX11_image 1 none ∈ am_G := am_G_t (i := 472) (by decide +kernel) rfl
theorem im_X11_image : Cond.instanceMethod yX11_image ∈ am_G := am_G_t (i := 470) (by decide +kernel) rfl
theorem se_X11_image : Cond.selects yX11_image.cls yX11_image yX11_image ∈ am_G := am_G_t (i := 471) (by decide +kernel) rfl
theorem cv_L_243 : am_cv RL 243 11 yX11_image cX11_image 1 none 0 := ⟨rfl, cm_X11_image, am_G_t (i := 469) (by decide +kernel) rfl, im_X11_image, se_X11_image, in_X11, ⟨by decide, by decide, by decide +kernel⟩⟩
theorem cm_X12_image : Cond.code yX12_image cX12_image 2 none ∈ am_G := am_G_t (i := 1502) (by decide +kernel) rfl
theorem im_X12_image : Cond.instanceMethod yX12_image ∈ am_G := am_G_t (i := 1500) (by decide +kernel) rfl
theorem se_X12_image : Cond.selects yX12_image.cls yX12_image yX12_image ∈ am_G := am_G_t (i := 1501) (by decide +kernel) rfl
theorem cv_L_246 : am_cv RL 246 12 yX12_image cX12_image 2 none 0 := ⟨rfl, cm_X12_image, am_G_t (i := 1499) (by decide +kernel) rfl, im_X12_image, se_X12_image, in_X12, ⟨by decide, by decide, by decide +kernel⟩⟩
theorem cm_X11_back : Cond.code yX11_back cX11_back 1 (some .boolean) ∈ am_G := am_G_t (i := 493) (by decide +kernel) rfl
theorem im_X11_back : Cond.instanceMethod yX11_back ∈ am_G := am_G_t (i := 491) (by decide +kernel) rfl
theorem se_X11_back : Cond.selects yX11_back.cls yX11_back yX11_back ∈ am_G := am_G_t (i := 492) (by decide +kernel) rfl
theorem cv_L_247 : am_cv RL 247 11 yX11_back cX11_back 1 (some .boolean) 0 := ⟨rfl, cm_X11_back, am_G_t (i := 490) (by decide +kernel) rfl, im_X11_back, se_X11_back, in_X11, ⟨by decide, by decide, by decide +kernel⟩⟩
theorem cm_X12_back : Cond.code yX12_back cX12_back 2 (some .boolean) ∈ am_G := am_G_t (i := 1506) (by decide +kernel) rfl
theorem im_X12_back : Cond.instanceMethod yX12_back ∈ am_G := am_G_t (i := 1504) (by decide +kernel) rfl
theorem se_X12_back : Cond.selects yX12_back.cls yX12_back yX12_back ∈ am_G := am_G_t (i := 1505) (by decide +kernel) rfl
theorem cv_L_251 : am_cv RL 251 12 yX12_back cX12_back 2 (some .boolean) 0 := ⟨rfl, cm_X12_back, am_G_t (i := 1503) (by decide +kernel) rfl, im_X12_back, se_X12_back, in_X12, ⟨by decide, by decide, by decide +kernel⟩⟩
theorem cm_X11_count : Cond.code yX11_count cX11_count 2 (some .int) ∈ am_G := am_G_t (i := 497) (by decide +kernel) rfl
theorem im_X11_count : Cond.instanceMethod yX11_count ∈ am_G := am_G_t (i := 495) (by decide +kernel) rfl
theorem se_X11_count : Cond.selects yX11_count.cls yX11_count yX11_count ∈ am_G := am_G_t (i := 496) (by decide +kernel) rfl
theorem cv_L_252 : am_cv RL 252 11 yX11_count cX11_count 2 (some .int) 1 := ⟨rfl, cm_X11_count, am_G_t (i := 494) (by decide +kernel) rfl, im_X11_count, se_X11_count, in_X11, ⟨by decide, by decide, by decide +kernel⟩⟩
theorem cm_X12_count : Cond.code yX12_count cX12_count 5 (some .int) ∈ am_G := am_G_t (i := 1945) (by decide +kernel) rfl
theorem im_X12_count : Cond.instanceMethod yX12_count ∈ am_G := am_G_t (i := 1943) (by decide +kernel) rfl
theorem se_X12_count : Cond.selects yX12_count.cls yX12_count yX12_count ∈ am_G := am_G_t (i := 1944) (by decide +kernel) rfl
theorem cv_L_255 : am_cv RL 255 12 yX12_count cX12_count 5 (some .int) 1 := ⟨rfl, cm_X12_count, am_G_t (i := 1942) (by decide +kernel) rfl, im_X12_count, se_X12_count, in_X12, ⟨by decide, by decide, by decide +kernel⟩⟩
theorem cm_X11_want : Cond.code yX11_want cX11_want 2 (some .int) ∈ am_G := am_G_t (i := 883) (by decide +kernel) rfl
theorem im_X11_want : Cond.instanceMethod yX11_want ∈ am_G := am_G_t (i := 881) (by decide +kernel) rfl
theorem se_X11_want : Cond.selects yX11_want.cls yX11_want yX11_want ∈ am_G := am_G_t (i := 882) (by decide +kernel) rfl
theorem cv_L_28 : am_cv RL 28 11 yX11_want cX11_want 2 (some .int) 1 := ⟨rfl, cm_X11_want, am_G_t (i := 880) (by decide +kernel) rfl, im_X11_want, se_X11_want, in_X11, ⟨by decide, by decide, by decide +kernel⟩⟩
theorem cm_X11_code : Cond.code yX11_code cX11_code 3 (some .int) ∈ am_G := am_G_t (i := 896) (by decide +kernel) rfl
theorem im_X11_code : Cond.instanceMethod yX11_code ∈ am_G := am_G_t (i := 894) (by decide +kernel) rfl
theorem se_X11_code : Cond.selects yX11_code.cls yX11_code yX11_code ∈ am_G := am_G_t (i := 895) (by decide +kernel) rfl
theorem cv_L_32 : am_cv RL 32 11 yX11_code cX11_code 3 (some .int) 2 := ⟨rfl, cm_X11_code, am_G_t (i := 893) (by decide +kernel) rfl, im_X11_code, se_X11_code, in_X11, ⟨by decide, by decide, by decide +kernel⟩⟩
theorem cm_X11_cost : Cond.code yX11_cost cX11_cost 2 (some .int) ∈ am_G := am_G_t (i := 904) (by decide +kernel) rfl
theorem im_X11_cost : Cond.instanceMethod yX11_cost ∈ am_G := am_G_t (i := 902) (by decide +kernel) rfl
theorem se_X11_cost : Cond.selects yX11_cost.cls yX11_cost yX11_cost ∈ am_G := am_G_t (i := 903) (by decide +kernel) rfl
theorem cv_L_35 : am_cv RL 35 11 yX11_cost cX11_cost 2 (some .int) 1 := ⟨rfl, cm_X11_cost, am_G_t (i := 901) (by decide +kernel) rfl, im_X11_cost, se_X11_cost, in_X11, ⟨by decide, by decide, by decide +kernel⟩⟩
theorem cm_X11_way : Cond.code yX11_way cX11_way 4 (some .int) ∈ am_G := am_G_t (i := 917) (by decide +kernel) rfl
theorem im_X11_way : Cond.instanceMethod yX11_way ∈ am_G := am_G_t (i := 915) (by decide +kernel) rfl
theorem se_X11_way : Cond.selects yX11_way.cls yX11_way yX11_way ∈ am_G := am_G_t (i := 916) (by decide +kernel) rfl
theorem cv_L_38 : am_cv RL 38 11 yX11_way cX11_way 4 (some .int) 3 := ⟨rfl, cm_X11_way, am_G_t (i := 914) (by decide +kernel) rfl, im_X11_way, se_X11_way, in_X11, ⟨by decide, by decide, by decide +kernel⟩⟩
theorem cm_X11_ring : Cond.code yX11_ring cX11_ring 5 (some .int) ∈ am_G := am_G_t (i := 935) (by decide +kernel) rfl
theorem im_X11_ring : Cond.instanceMethod yX11_ring ∈ am_G := am_G_t (i := 933) (by decide +kernel) rfl
theorem se_X11_ring : Cond.selects yX11_ring.cls yX11_ring yX11_ring ∈ am_G := am_G_t (i := 934) (by decide +kernel) rfl
theorem cv_L_42 : am_cv RL 42 11 yX11_ring cX11_ring 5 (some .int) 3 := ⟨rfl, cm_X11_ring, am_G_t (i := 932) (by decide +kernel) rfl, im_X11_ring, se_X11_ring, in_X11, ⟨by decide, by decide, by decide +kernel⟩⟩
theorem cm_X11_heard : Cond.code yX11_heard cX11_heard 3 (some .int) ∈ am_G := am_G_t (i := 957) (by decide +kernel) rfl
theorem im_X11_heard : Cond.instanceMethod yX11_heard ∈ am_G := am_G_t (i := 955) (by decide +kernel) rfl
theorem se_X11_heard : Cond.selects yX11_heard.cls yX11_heard yX11_heard ∈ am_G := am_G_t (i := 956) (by decide +kernel) rfl
theorem cv_L_45 : am_cv RL 45 11 yX11_heard cX11_heard 3 (some .int) 2 := ⟨rfl, cm_X11_heard, am_G_t (i := 954) (by decide +kernel) rfl, im_X11_heard, se_X11_heard, in_X11, ⟨by decide, by decide, by decide +kernel⟩⟩
theorem cm_X11_taken : Cond.code yX11_taken cX11_taken 3 (some .int) ∈ am_G := am_G_t (i := 995) (by decide +kernel) rfl
theorem im_X11_taken : Cond.instanceMethod yX11_taken ∈ am_G := am_G_t (i := 993) (by decide +kernel) rfl
theorem se_X11_taken : Cond.selects yX11_taken.cls yX11_taken yX11_taken ∈ am_G := am_G_t (i := 994) (by decide +kernel) rfl
theorem cv_L_48 : am_cv RL 48 11 yX11_taken cX11_taken 3 (some .int) 2 := ⟨rfl, cm_X11_taken, am_G_t (i := 992) (by decide +kernel) rfl, im_X11_taken, se_X11_taken, in_X11, ⟨by decide, by decide, by decide +kernel⟩⟩
theorem cm_X11_sure : Cond.code yX11_sure cX11_sure 3 (some .int) ∈ am_G := am_G_t (i := 1011) (by decide +kernel) rfl
theorem im_X11_sure : Cond.instanceMethod yX11_sure ∈ am_G := am_G_t (i := 1009) (by decide +kernel) rfl
theorem se_X11_sure : Cond.selects yX11_sure.cls yX11_sure yX11_sure ∈ am_G := am_G_t (i := 1010) (by decide +kernel) rfl
theorem cv_L_51 : am_cv RL 51 11 yX11_sure cX11_sure 3 (some .int) 2 := ⟨rfl, cm_X11_sure, am_G_t (i := 1008) (by decide +kernel) rfl, im_X11_sure, se_X11_sure, in_X11, ⟨by decide, by decide, by decide +kernel⟩⟩
theorem cm_X11_begins : Cond.code yX11_begins cX11_begins 2 (some .int) ∈ am_G := am_G_t (i := 1023) (by decide +kernel) rfl
theorem im_X11_begins : Cond.instanceMethod yX11_begins ∈ am_G := am_G_t (i := 1021) (by decide +kernel) rfl
theorem se_X11_begins : Cond.selects yX11_begins.cls yX11_begins yX11_begins ∈ am_G := am_G_t (i := 1022) (by decide +kernel) rfl
theorem cv_L_55 : am_cv RL 55 11 yX11_begins cX11_begins 2 (some .int) 1 := ⟨rfl, cm_X11_begins, am_G_t (i := 1020) (by decide +kernel) rfl, im_X11_begins, se_X11_begins, in_X11, ⟨by decide, by decide, by decide +kernel⟩⟩
theorem cm_X11_safe : Cond.code yX11_safe cX11_safe 3 (some .boolean) ∈ am_G := am_G_t (i := 1039) (by decide +kernel) rfl
theorem im_X11_safe : Cond.instanceMethod yX11_safe ∈ am_G := am_G_t (i := 1037) (by decide +kernel) rfl
theorem se_X11_safe : Cond.selects yX11_safe.cls yX11_safe yX11_safe ∈ am_G := am_G_t (i := 1038) (by decide +kernel) rfl
theorem cv_L_58 : am_cv RL 58 11 yX11_safe cX11_safe 3 (some .boolean) 2 := ⟨rfl, cm_X11_safe, am_G_t (i := 1036) (by decide +kernel) rfl, im_X11_safe, se_X11_safe, in_X11, ⟨by decide, by decide, by decide +kernel⟩⟩
theorem cm_X11_buy : Cond.code yX11_buy cX11_buy 5 (some .int) ∈ am_G := am_G_t (i := 1052) (by decide +kernel) rfl
theorem im_X11_buy : Cond.instanceMethod yX11_buy ∈ am_G := am_G_t (i := 1050) (by decide +kernel) rfl
theorem se_X11_buy : Cond.selects yX11_buy.cls yX11_buy yX11_buy ∈ am_G := am_G_t (i := 1051) (by decide +kernel) rfl
theorem cv_L_62 : am_cv RL 62 11 yX11_buy cX11_buy 5 (some .int) 3 := ⟨rfl, cm_X11_buy, am_G_t (i := 1049) (by decide +kernel) rfl, im_X11_buy, se_X11_buy, in_X11, ⟨by decide, by decide, by decide +kernel⟩⟩
theorem cm_X11_trade : Cond.code yX11_trade cX11_trade 5 none ∈ am_G := am_G_t (i := 1063) (by decide +kernel) rfl
theorem im_X11_trade : Cond.instanceMethod yX11_trade ∈ am_G := am_G_t (i := 1061) (by decide +kernel) rfl
theorem se_X11_trade : Cond.selects yX11_trade.cls yX11_trade yX11_trade ∈ am_G := am_G_t (i := 1062) (by decide +kernel) rfl
theorem cv_L_65 : am_cv RL 65 11 yX11_trade cX11_trade 5 none 3 := ⟨rfl, cm_X11_trade, am_G_t (i := 1060) (by decide +kernel) rfl, im_X11_trade, se_X11_trade, in_X11, ⟨by decide, by decide, by decide +kernel⟩⟩
theorem cm_X11_colours : Cond.code yX11_colours cX11_colours 3 (some .int) ∈ am_G := am_G_t (i := 1071) (by decide +kernel) rfl
theorem im_X11_colours : Cond.instanceMethod yX11_colours ∈ am_G := am_G_t (i := 1069) (by decide +kernel) rfl
theorem se_X11_colours : Cond.selects yX11_colours.cls yX11_colours yX11_colours ∈ am_G := am_G_t (i := 1070) (by decide +kernel) rfl
theorem cv_L_69 : am_cv RL 69 11 yX11_colours cX11_colours 3 (some .int) 1 := ⟨rfl, cm_X11_colours, am_G_t (i := 1068) (by decide +kernel) rfl, im_X11_colours, se_X11_colours, in_X11, ⟨by decide, by decide, by decide +kernel⟩⟩
theorem cm_X11_town : Cond.code yX11_town cX11_town 2 (some .int) ∈ am_G := am_G_t (i := 542) (by decide +kernel) rfl
theorem im_X11_town : Cond.instanceMethod yX11_town ∈ am_G := am_G_t (i := 540) (by decide +kernel) rfl
theorem se_X11_town : Cond.selects yX11_town.cls yX11_town yX11_town ∈ am_G := am_G_t (i := 541) (by decide +kernel) rfl
theorem cv_L_7 : am_cv RL 7 11 yX11_town cX11_town 2 (some .int) 0 := ⟨rfl, cm_X11_town, am_G_t (i := 539) (by decide +kernel) rfl, im_X11_town, se_X11_town, in_X11, ⟨by decide, by decide, by decide +kernel⟩⟩
theorem cm_X11_relay : Cond.code yX11_relay cX11_relay 4 (some .int) ∈ am_G := am_G_t (i := 1098) (by decide +kernel) rfl
theorem im_X11_relay : Cond.instanceMethod yX11_relay ∈ am_G := am_G_t (i := 1096) (by decide +kernel) rfl
theorem se_X11_relay : Cond.selects yX11_relay.cls yX11_relay yX11_relay ∈ am_G := am_G_t (i := 1097) (by decide +kernel) rfl
theorem cv_L_72 : am_cv RL 72 11 yX11_relay cX11_relay 4 (some .int) 3 := ⟨rfl, cm_X11_relay, am_G_t (i := 1095) (by decide +kernel) rfl, im_X11_relay, se_X11_relay, in_X11, ⟨by decide, by decide, by decide +kernel⟩⟩
theorem cm_X11_ringers : Cond.code yX11_ringers cX11_ringers 3 (some .int) ∈ am_G := am_G_t (i := 1131) (by decide +kernel) rfl
theorem im_X11_ringers : Cond.instanceMethod yX11_ringers ∈ am_G := am_G_t (i := 1129) (by decide +kernel) rfl
theorem se_X11_ringers : Cond.selects yX11_ringers.cls yX11_ringers yX11_ringers ∈ am_G := am_G_t (i := 1130) (by decide +kernel) rfl
theorem cv_L_75 : am_cv RL 75 11 yX11_ringers cX11_ringers 3 (some .int) 2 := ⟨rfl, cm_X11_ringers, am_G_t (i := 1128) (by decide +kernel) rfl, im_X11_ringers, se_X11_ringers, in_X11, ⟨by decide, by decide, by decide +kernel⟩⟩
theorem cm_X11_six : Cond.code yX11_six cX11_six 3 (some .int) ∈ am_G := am_G_t (i := 1147) (by decide +kernel) rfl
theorem im_X11_six : Cond.instanceMethod yX11_six ∈ am_G := am_G_t (i := 1145) (by decide +kernel) rfl
theorem se_X11_six : Cond.selects yX11_six.cls yX11_six yX11_six ∈ am_G := am_G_t (i := 1146) (by decide +kernel) rfl
theorem cv_L_78 : am_cv RL 78 11 yX11_six cX11_six 3 (some .int) 2 := ⟨rfl, cm_X11_six, am_G_t (i := 1144) (by decide +kernel) rfl, im_X11_six, se_X11_six, in_X11, ⟨by decide, by decide, by decide +kernel⟩⟩
theorem cm_X11_lot : Cond.code yX11_lot cX11_lot 4 (some .int) ∈ am_G := am_G_t (i := 1212) (by decide +kernel) rfl
theorem im_X11_lot : Cond.instanceMethod yX11_lot ∈ am_G := am_G_t (i := 1210) (by decide +kernel) rfl
theorem se_X11_lot : Cond.selects yX11_lot.cls yX11_lot yX11_lot ∈ am_G := am_G_t (i := 1211) (by decide +kernel) rfl
theorem cv_L_81 : am_cv RL 81 11 yX11_lot cX11_lot 4 (some .int) 3 := ⟨rfl, cm_X11_lot, am_G_t (i := 1209) (by decide +kernel) rfl, im_X11_lot, se_X11_lot, in_X11, ⟨by decide, by decide, by decide +kernel⟩⟩
theorem cm_X11_room : Cond.code yX11_room cX11_room 4 (some .int) ∈ am_G := am_G_t (i := 1237) (by decide +kernel) rfl
theorem im_X11_room : Cond.instanceMethod yX11_room ∈ am_G := am_G_t (i := 1235) (by decide +kernel) rfl
theorem se_X11_room : Cond.selects yX11_room.cls yX11_room yX11_room ∈ am_G := am_G_t (i := 1236) (by decide +kernel) rfl
theorem cv_L_84 : am_cv RL 84 11 yX11_room cX11_room 4 (some .int) 3 := ⟨rfl, cm_X11_room, am_G_t (i := 1234) (by decide +kernel) rfl, im_X11_room, se_X11_room, in_X11, ⟨by decide, by decide, by decide +kernel⟩⟩
theorem cm_X11_learn : Cond.code yX11_learn cX11_learn 3 (some .int) ∈ am_G := am_G_t (i := 1268) (by decide +kernel) rfl
theorem im_X11_learn : Cond.instanceMethod yX11_learn ∈ am_G := am_G_t (i := 1266) (by decide +kernel) rfl
theorem se_X11_learn : Cond.selects yX11_learn.cls yX11_learn yX11_learn ∈ am_G := am_G_t (i := 1267) (by decide +kernel) rfl
theorem cv_L_88 : am_cv RL 88 11 yX11_learn cX11_learn 3 (some .int) 1 := ⟨rfl, cm_X11_learn, am_G_t (i := 1265) (by decide +kernel) rfl, im_X11_learn, se_X11_learn, in_X11, ⟨by decide, by decide, by decide +kernel⟩⟩
theorem cm_X11_fooled : Cond.code yX11_fooled cX11_fooled 5 (some .int) ∈ am_G := am_G_t (i := 1313) (by decide +kernel) rfl
theorem im_X11_fooled : Cond.instanceMethod yX11_fooled ∈ am_G := am_G_t (i := 1311) (by decide +kernel) rfl
theorem se_X11_fooled : Cond.selects yX11_fooled.cls yX11_fooled yX11_fooled ∈ am_G := am_G_t (i := 1312) (by decide +kernel) rfl
theorem cv_L_91 : am_cv RL 91 11 yX11_fooled cX11_fooled 5 (some .int) 3 := ⟨rfl, cm_X11_fooled, am_G_t (i := 1310) (by decide +kernel) rfl, im_X11_fooled, se_X11_fooled, in_X11, ⟨by decide, by decide, by decide +kernel⟩⟩
theorem cm_X11_could : Cond.code yX11_could cX11_could 3 (some .int) ∈ am_G := am_G_t (i := 1327) (by decide +kernel) rfl
theorem im_X11_could : Cond.instanceMethod yX11_could ∈ am_G := am_G_t (i := 1325) (by decide +kernel) rfl
theorem se_X11_could : Cond.selects yX11_could.cls yX11_could yX11_could ∈ am_G := am_G_t (i := 1326) (by decide +kernel) rfl
theorem cv_L_94 : am_cv RL 94 11 yX11_could cX11_could 3 (some .int) 2 := ⟨rfl, cm_X11_could, am_G_t (i := 1324) (by decide +kernel) rfl, im_X11_could, se_X11_could, in_X11, ⟨by decide, by decide, by decide +kernel⟩⟩
theorem cm_X11_understood : Cond.code yX11_understood cX11_understood 4 (some .int) ∈ am_G := am_G_t (i := 1339) (by decide +kernel) rfl
theorem im_X11_understood : Cond.instanceMethod yX11_understood ∈ am_G := am_G_t (i := 1337) (by decide +kernel) rfl
theorem se_X11_understood : Cond.selects yX11_understood.cls yX11_understood yX11_understood ∈ am_G := am_G_t (i := 1338) (by decide +kernel) rfl
theorem cv_L_97 : am_cv RL 97 11 yX11_understood cX11_understood 4 (some .int) 1 := ⟨rfl, cm_X11_understood, am_G_t (i := 1336) (by decide +kernel) rfl, im_X11_understood, se_X11_understood, in_X11, ⟨by decide, by decide, by decide +kernel⟩⟩
