theorem ck_in {i : Nat} {w : Cond} (h : tables_1[i]? = some w) (hg : goodWord w = true) : w ∈ ck_T := List.mem_filter.mpr ⟨List.mem_append_right _ (List.mem_of_getElem? h), hg⟩
theorem ck_inN {i : Nat} {w : Cond} (h : tables_1[i]? = some w) (hg : ck_nest w = true) : w ∈ ck_N := List.mem_filter.mpr ⟨List.mem_append_right _ (List.mem_of_getElem? h), hg⟩
theorem ck_inP {i : Nat} {q : MethodName × Nat} (h : lw_privs[i]? = some q) : Cond.selects q.1.cls q.1 q.1 ∈ ck_T := List.mem_filter.mpr ⟨List.mem_append_left _ (List.mem_map.mpr ⟨q, List.mem_of_getElem? h, rfl⟩), rfl⟩
theorem ck_inU {ws : List Cond} (ps : List Nat) (hp : ws = ps.filterMap (fun i => tables_1[i]?)) (h : ws.all goodWord = true) : ∀ w ∈ ws, w ∈ ck_T := by
  intro w hw
  have h1 := List.all_eq_true.mp h w hw
  rw [hp] at hw
  obtain ⟨i, -, hi⟩ := List.mem_filterMap.mp hw
  exact ck_in hi h1
theorem ck_inc1 {i : Nat} {w : Cond} (h : tables_1_1[i]? = some w) (hg : goodWord w = true) : w ∈ ck_T := List.mem_filter.mpr ⟨List.mem_append_right _ (List.mem_append_left _ (List.mem_of_getElem? h)), hg⟩
theorem ck_inNc1 {i : Nat} {w : Cond} (h : tables_1_1[i]? = some w) (hg : ck_nest w = true) : w ∈ ck_N := List.mem_filter.mpr ⟨List.mem_append_right _ (List.mem_append_left _ (List.mem_of_getElem? h)), hg⟩
theorem ck_inc2 {i : Nat} {w : Cond} (h : tables_1_2[i]? = some w) (hg : goodWord w = true) : w ∈ ck_T := List.mem_filter.mpr ⟨List.mem_append_right _ (List.mem_append_right _ (List.mem_append_left _ (List.mem_of_getElem? h))), hg⟩
theorem ck_inNc2 {i : Nat} {w : Cond} (h : tables_1_2[i]? = some w) (hg : ck_nest w = true) : w ∈ ck_N := List.mem_filter.mpr ⟨List.mem_append_right _ (List.mem_append_right _ (List.mem_append_left _ (List.mem_of_getElem? h))), hg⟩
theorem ck_inc3 {i : Nat} {w : Cond} (h : tables_1_3[i]? = some w) (hg : goodWord w = true) : w ∈ ck_T := List.mem_filter.mpr ⟨List.mem_append_right _ (List.mem_append_right _ (List.mem_append_right _ (List.mem_append_left _ (List.mem_of_getElem? h)))), hg⟩
theorem ck_inNc3 {i : Nat} {w : Cond} (h : tables_1_3[i]? = some w) (hg : ck_nest w = true) : w ∈ ck_N := List.mem_filter.mpr ⟨List.mem_append_right _ (List.mem_append_right _ (List.mem_append_right _ (List.mem_append_left _ (List.mem_of_getElem? h)))), hg⟩
theorem ck_inc4 {i : Nat} {w : Cond} (h : tables_1_4[i]? = some w) (hg : goodWord w = true) : w ∈ ck_T := List.mem_filter.mpr ⟨List.mem_append_right _ (List.mem_append_right _ (List.mem_append_right _ (List.mem_append_right _ (List.mem_append_left _ (List.mem_of_getElem? h))))), hg⟩
theorem ck_inNc4 {i : Nat} {w : Cond} (h : tables_1_4[i]? = some w) (hg : ck_nest w = true) : w ∈ ck_N := List.mem_filter.mpr ⟨List.mem_append_right _ (List.mem_append_right _ (List.mem_append_right _ (List.mem_append_right _ (List.mem_append_left _ (List.mem_of_getElem? h))))), hg⟩
theorem ck_inc5 {i : Nat} {w : Cond} (h : tables_1_5[i]? = some w) (hg : goodWord w = true) : w ∈ ck_T := List.mem_filter.mpr ⟨List.mem_append_right _ (List.mem_append_right _ (List.mem_append_right _ (List.mem_append_right _ (List.mem_append_right _ (List.mem_append_left _ (List.mem_of_getElem? h)))))), hg⟩
theorem ck_inNc5 {i : Nat} {w : Cond} (h : tables_1_5[i]? = some w) (hg : ck_nest w = true) : w ∈ ck_N := List.mem_filter.mpr ⟨List.mem_append_right _ (List.mem_append_right _ (List.mem_append_right _ (List.mem_append_right _ (List.mem_append_right _ (List.mem_append_left _ (List.mem_of_getElem? h)))))), hg⟩
theorem ck_inc6 {i : Nat} {w : Cond} (h : tables_1_6[i]? = some w) (hg : goodWord w = true) : w ∈ ck_T := List.mem_filter.mpr ⟨List.mem_append_right _ (List.mem_append_right _ (List.mem_append_right _ (List.mem_append_right _ (List.mem_append_right _ (List.mem_append_right _ (List.mem_append_left _ (List.mem_of_getElem? h))))))), hg⟩
theorem ck_inNc6 {i : Nat} {w : Cond} (h : tables_1_6[i]? = some w) (hg : ck_nest w = true) : w ∈ ck_N := List.mem_filter.mpr ⟨List.mem_append_right _ (List.mem_append_right _ (List.mem_append_right _ (List.mem_append_right _ (List.mem_append_right _ (List.mem_append_right _ (List.mem_append_left _ (List.mem_of_getElem? h))))))), hg⟩
theorem ck_inc7 {i : Nat} {w : Cond} (h : tables_1_7[i]? = some w) (hg : goodWord w = true) : w ∈ ck_T := List.mem_filter.mpr ⟨List.mem_append_right _ (List.mem_append_right _ (List.mem_append_right _ (List.mem_append_right _ (List.mem_append_right _ (List.mem_append_right _ (List.mem_append_right _ (List.mem_append_left _ (List.mem_of_getElem? h)))))))), hg⟩
theorem ck_inNc7 {i : Nat} {w : Cond} (h : tables_1_7[i]? = some w) (hg : ck_nest w = true) : w ∈ ck_N := List.mem_filter.mpr ⟨List.mem_append_right _ (List.mem_append_right _ (List.mem_append_right _ (List.mem_append_right _ (List.mem_append_right _ (List.mem_append_right _ (List.mem_append_right _ (List.mem_append_left _ (List.mem_of_getElem? h)))))))), hg⟩
theorem ck_inc8 {i : Nat} {w : Cond} (h : tables_1_8[i]? = some w) (hg : goodWord w = true) : w ∈ ck_T := List.mem_filter.mpr ⟨List.mem_append_right _ (List.mem_append_right _ (List.mem_append_right _ (List.mem_append_right _ (List.mem_append_right _ (List.mem_append_right _ (List.mem_append_right _ (List.mem_append_right _ (List.mem_of_getElem? h)))))))), hg⟩
theorem ck_inNc8 {i : Nat} {w : Cond} (h : tables_1_8[i]? = some w) (hg : ck_nest w = true) : w ∈ ck_N := List.mem_filter.mpr ⟨List.mem_append_right _ (List.mem_append_right _ (List.mem_append_right _ (List.mem_append_right _ (List.mem_append_right _ (List.mem_append_right _ (List.mem_append_right _ (List.mem_append_right _ (List.mem_of_getElem? h)))))))), hg⟩
theorem clX0 : ck_cls 0 RX0 TX0 8 tyX0 := ⟨rfl, ck_inU [496, 498, 500, 502, 504, 506, 508, 510] (by decide +kernel) (by decide +kernel), tyX0_ok, nmX0, ck_inc3 (i := 0) rfl rfl, ck_inc1 (i := 16) rfl rfl⟩
theorem clX1 : ck_cls 1 RX1 TX1 8 tyX1 := ⟨rfl, ck_inU [203, 205, 207, 209, 211, 213, 215, 217] (by decide +kernel) (by decide +kernel), tyX1_ok, nmX1, ck_inc1 (i := 164) rfl rfl, ck_inc1 (i := 9) rfl rfl⟩
theorem clX2 : ck_cls 2 RX2 TX2 4 tyX2 := ⟨rfl, ck_inU [262, 264, 266, 268] (by decide +kernel) (by decide +kernel), tyX2_ok, nmX2, ck_inc2 (i := 12) rfl rfl, ck_inc1 (i := 11) rfl rfl⟩
theorem clX3 : ck_cls 3 RX3 TX3 6 tyX3 := ⟨rfl, ck_inU [140, 142, 144, 146, 148, 150] (by decide +kernel) (by decide +kernel), tyX3_ok, nmX3, ck_inc1 (i := 129) rfl rfl, ck_inc1 (i := 8) rfl rfl⟩
theorem clX4 : ck_cls 4 RX4 TX4 6 tyX4 := ⟨rfl, ck_inU [311, 313, 315, 317, 319, 321] (by decide +kernel) (by decide +kernel), tyX4_ok, nmX4, ck_inc2 (i := 56) rfl rfl, ck_inc1 (i := 14) rfl rfl⟩
theorem clX5 : ck_cls 5 RX5 TX5 2 tyX5 := ⟨rfl, ck_inU [290, 292] (by decide +kernel) (by decide +kernel), tyX5_ok, nmX5, ck_inc2 (i := 38) rfl rfl, ck_inc1 (i := 13) rfl rfl⟩
theorem clX6 : ck_cls 6 RX6 TX6 7 tyX6 := ⟨rfl, ck_inU [235, 237, 239, 241, 243, 245, 247] (by decide +kernel) (by decide +kernel), tyX6_ok, nmX6, ck_inc1 (i := 221) rfl rfl, ck_inc1 (i := 10) rfl rfl⟩
theorem clX7 : ck_cls 7 RX7 TX7 18 tyX7 := ⟨rfl, ck_inU [387, 389, 391, 393, 395, 397, 399, 401, 403, 405, 407, 409, 411, 413, 415, 417, 419, 421] (by decide +kernel) (by decide +kernel), tyX7_ok, nmX7, ck_inc2 (i := 32) rfl rfl, ck_inc1 (i := 12) rfl rfl⟩
theorem clX8 : ck_cls 8 RX8 TX8 8 tyX8 := ⟨rfl, ck_inU [109, 111, 113, 115, 117, 119, 121, 123] (by decide +kernel) (by decide +kernel), tyX8_ok, nmX8, ck_inc1 (i := 41) rfl rfl, ck_inc1 (i := 3) rfl rfl⟩
theorem clX9 : ck_cls 9 RX9 TX9 3 tyX9 := ⟨rfl, ck_inU [156, 158, 160] (by decide +kernel) (by decide +kernel), tyX9_ok, nmX9, ck_inc1 (i := 35) rfl rfl, ck_inc1 (i := 2) rfl rfl⟩
theorem clX10 : ck_cls 10 RX10 TX10 12 tyX10 := ⟨rfl, ck_inU [454, 456, 458, 460, 462, 464, 466, 468, 470, 472, 474, 476] (by decide +kernel) (by decide +kernel), tyX10_ok, nmX10, ck_inc2 (i := 185) rfl rfl, ck_inc1 (i := 15) rfl rfl⟩
theorem clX11 : ck_cls 11 RX11 TX11 15 tyX11 := ⟨rfl, ck_inU [535, 537, 539, 541, 543, 545, 547, 549, 551, 553, 555, 557, 559, 561, 563] (by decide +kernel) (by decide +kernel), tyX11_ok, nmX11, ck_inc1 (i := 27) rfl rfl, ck_inc1 (i := 1) rfl rfl⟩
theorem clX12 : ck_cls 12 RX12 TX12 69 tyX12 := ⟨rfl, ck_inU [1293, 1295, 1297, 1299, 1301, 1303, 1305, 1307, 1309, 1311, 1313, 1315, 1317, 1319, 1321, 1323, 1325, 1327, 1329, 1331, 1333, 1335, 1337, 1339, 1341, 1343, 1345, 1347, 1349, 1351, 1353, 1355, 1357, 1359, 1361, 1363, 1365, 1367, 1369, 1371, 1373, 1375, 1377, 1379, 1381, 1383, 1385, 1387, 1389, 1391, 1393, 1395, 1397, 1399, 1401, 1403, 1405, 1407, 1409, 1411, 1413, 1415, 1417, 1419, 1421, 1423, 1425, 1427, 1429] (by decide +kernel) (by decide +kernel), tyX12_ok, nmX12, ck_inc6 (i := 7) rfl rfl, ck_inc1 (i := 18) rfl rfl⟩
theorem cal_X11_init : ck_cal yX11_init cX11_init 1 none 0 := ⟨ck_inc1 (i := 30) rfl rfl, ck_inc1 (i := 1) rfl rfl, by decide +kernel, by decide +kernel, by decide +kernel⟩
theorem ins_X11_init : Cond.instanceMethod yX11_init ∈ ck_T := ck_inc1 (i := 29) rfl rfl
theorem cal_X11_feed : ck_cal yX11_feed cX11_feed 6 (some .int) 5 := ⟨ck_inc3 (i := 89) rfl rfl, ck_inc1 (i := 1) rfl rfl, by decide +kernel, by decide +kernel, by decide +kernel⟩
theorem vir_X11_feed : Cond.instanceMethod yX11_feed ∈ ck_T ∧ Cond.selects yX11_feed.cls yX11_feed yX11_feed ∈ ck_T := ⟨ck_inc3 (i := 87) rfl rfl, ck_inc3 (i := 88) rfl rfl⟩
theorem cal_X11_text : ck_cal yX11_text cX11_text 3 (some .int) 1 := ⟨ck_inc3 (i := 97) rfl rfl, ck_inc1 (i := 1) rfl rfl, by decide +kernel, by decide +kernel, by decide +kernel⟩
theorem vir_X11_text : Cond.instanceMethod yX11_text ∈ ck_T ∧ Cond.selects yX11_text.cls yX11_text yX11_text ∈ ck_T := ⟨ck_inc3 (i := 95) rfl rfl, ck_inc3 (i := 96) rfl rfl⟩
theorem cal_X11_fault : ck_cal yX11_fault cX11_fault 2 (some .int) 1 := ⟨ck_inc4 (i := 12) rfl rfl, ck_inc1 (i := 1) rfl rfl, by decide +kernel, by decide +kernel, by decide +kernel⟩
theorem vir_X11_fault : Cond.instanceMethod yX11_fault ∈ ck_T ∧ Cond.selects yX11_fault.cls yX11_fault yX11_fault ∈ ck_T := ⟨ck_inc4 (i := 10) rfl rfl, ck_inc4 (i := 11) rfl rfl⟩
theorem cal_X11_named : ck_cal yX11_named cX11_named 3 (some .int) 2 := ⟨ck_inc4 (i := 16) rfl rfl, ck_inc1 (i := 1) rfl rfl, by decide +kernel, by decide +kernel, by decide +kernel⟩
theorem vir_X11_named : Cond.instanceMethod yX11_named ∈ ck_T ∧ Cond.selects yX11_named.cls yX11_named yX11_named ∈ ck_T := ⟨ck_inc4 (i := 14) rfl rfl, ck_inc4 (i := 15) rfl rfl⟩
theorem cal_X11_suit : ck_cal yX11_suit cX11_suit 3 (some .int) 2 := ⟨ck_inc5 (i := 162) rfl rfl, ck_inc1 (i := 1) rfl rfl, by decide +kernel, by decide +kernel, by decide +kernel⟩
theorem vir_X11_suit : Cond.instanceMethod yX11_suit ∈ ck_T ∧ Cond.selects yX11_suit.cls yX11_suit yX11_suit ∈ ck_T := ⟨ck_inc5 (i := 160) rfl rfl, ck_inc5 (i := 161) rfl rfl⟩
theorem cal_X11_judge : ck_cal yX11_judge cX11_judge 3 (some .int) 2 := ⟨ck_inc4 (i := 21) rfl rfl, ck_inc1 (i := 1) rfl rfl, by decide +kernel, by decide +kernel, by decide +kernel⟩
theorem vir_X11_judge : Cond.instanceMethod yX11_judge ∈ ck_T ∧ Cond.selects yX11_judge.cls yX11_judge yX11_judge ∈ ck_T := ⟨ck_inc4 (i := 19) rfl rfl, ck_inc4 (i := 20) rfl rfl⟩
theorem cal_X11_nut : ck_cal yX11_nut cX11_nut 3 (some .int) 2 := ⟨ck_inc4 (i := 37) rfl rfl, ck_inc1 (i := 1) rfl rfl, by decide +kernel, by decide +kernel, by decide +kernel⟩
theorem vir_X11_nut : Cond.instanceMethod yX11_nut ∈ ck_T ∧ Cond.selects yX11_nut.cls yX11_nut yX11_nut ∈ ck_T := ⟨ck_inc4 (i := 35) rfl rfl, ck_inc4 (i := 36) rfl rfl⟩
theorem cal_X11_force : ck_cal yX11_force cX11_force 3 (some .int) 2 := ⟨ck_inc4 (i := 45) rfl rfl, ck_inc1 (i := 1) rfl rfl, by decide +kernel, by decide +kernel, by decide +kernel⟩
theorem vir_X11_force : Cond.instanceMethod yX11_force ∈ ck_T ∧ Cond.selects yX11_force.cls yX11_force yX11_force ∈ ck_T := ⟨ck_inc4 (i := 43) rfl rfl, ck_inc4 (i := 44) rfl rfl⟩
theorem cal_X11_slack : ck_cal yX11_slack cX11_slack 3 (some .int) 2 := ⟨ck_inc4 (i := 85) rfl rfl, ck_inc1 (i := 1) rfl rfl, by decide +kernel, by decide +kernel, by decide +kernel⟩
theorem vir_X11_slack : Cond.instanceMethod yX11_slack ∈ ck_T ∧ Cond.selects yX11_slack.cls yX11_slack yX11_slack ∈ ck_T := ⟨ck_inc4 (i := 83) rfl rfl, ck_inc4 (i := 84) rfl rfl⟩
theorem cal_X11_verdict : ck_cal yX11_verdict cX11_verdict 3 (some .int) 2 := ⟨ck_inc4 (i := 89) rfl rfl, ck_inc1 (i := 1) rfl rfl, by decide +kernel, by decide +kernel, by decide +kernel⟩
theorem vir_X11_verdict : Cond.instanceMethod yX11_verdict ∈ ck_T ∧ Cond.selects yX11_verdict.cls yX11_verdict yX11_verdict ∈ ck_T := ⟨ck_inc4 (i := 87) rfl rfl, ck_inc4 (i := 88) rfl rfl⟩
theorem cal_X11_law : ck_cal yX11_law cX11_law 4 (some .long) 3 := ⟨ck_inc4 (i := 93) rfl rfl, ck_inc1 (i := 1) rfl rfl, by decide +kernel, by decide +kernel, by decide +kernel⟩
theorem vir_X11_law : Cond.instanceMethod yX11_law ∈ ck_T ∧ Cond.selects yX11_law.cls yX11_law yX11_law ∈ ck_T := ⟨ck_inc4 (i := 91) rfl rfl, ck_inc4 (i := 92) rfl rfl⟩
theorem cal_X11_give : ck_cal yX11_give cX11_give 3 (some .boolean) 2 := ⟨ck_inc4 (i := 99) rfl rfl, ck_inc1 (i := 1) rfl rfl, by decide +kernel, by decide +kernel, by decide +kernel⟩
theorem vir_X11_give : Cond.instanceMethod yX11_give ∈ ck_T ∧ Cond.selects yX11_give.cls yX11_give yX11_give ∈ ck_T := ⟨ck_inc4 (i := 97) rfl rfl, ck_inc4 (i := 98) rfl rfl⟩
theorem cal_X11_stone : ck_cal yX11_stone cX11_stone 3 (some .boolean) 2 := ⟨ck_inc4 (i := 120) rfl rfl, ck_inc1 (i := 1) rfl rfl, by decide +kernel, by decide +kernel, by decide +kernel⟩
theorem vir_X11_stone : Cond.instanceMethod yX11_stone ∈ ck_T ∧ Cond.selects yX11_stone.cls yX11_stone yX11_stone ∈ ck_T := ⟨ck_inc4 (i := 118) rfl rfl, ck_inc4 (i := 119) rfl rfl⟩
theorem cal_X11_put : ck_cal yX11_put cX11_put 3 (some .boolean) 2 := ⟨ck_inc4 (i := 128) rfl rfl, ck_inc1 (i := 1) rfl rfl, by decide +kernel, by decide +kernel, by decide +kernel⟩
theorem vir_X11_put : Cond.instanceMethod yX11_put ∈ ck_T ∧ Cond.selects yX11_put.cls yX11_put yX11_put ∈ ck_T := ⟨ck_inc4 (i := 126) rfl rfl, ck_inc4 (i := 127) rfl rfl⟩
theorem cal_X11_oil : ck_cal yX11_oil cX11_oil 2 (some .int) 1 := ⟨ck_inc4 (i := 132) rfl rfl, ck_inc1 (i := 1) rfl rfl, by decide +kernel, by decide +kernel, by decide +kernel⟩
theorem vir_X11_oil : Cond.instanceMethod yX11_oil ∈ ck_T ∧ Cond.selects yX11_oil.cls yX11_oil yX11_oil ∈ ck_T := ⟨ck_inc4 (i := 130) rfl rfl, ck_inc4 (i := 131) rfl rfl⟩
theorem cal_X11_go : ck_cal yX11_go cX11_go 2 (some .int) 1 := ⟨ck_inc4 (i := 136) rfl rfl, ck_inc1 (i := 1) rfl rfl, by decide +kernel, by decide +kernel, by decide +kernel⟩
theorem vir_X11_go : Cond.instanceMethod yX11_go ∈ ck_T ∧ Cond.selects yX11_go.cls yX11_go yX11_go ∈ ck_T := ⟨ck_inc4 (i := 134) rfl rfl, ck_inc4 (i := 135) rfl rfl⟩
theorem cal_X11_ahead : ck_cal yX11_ahead cX11_ahead 3 (some .int) 2 := ⟨ck_inc4 (i := 179) rfl rfl, ck_inc1 (i := 1) rfl rfl, by decide +kernel, by decide +kernel, by decide +kernel⟩
theorem vir_X11_ahead : Cond.instanceMethod yX11_ahead ∈ ck_T ∧ Cond.selects yX11_ahead.cls yX11_ahead yX11_ahead ∈ ck_T := ⟨ck_inc4 (i := 177) rfl rfl, ck_inc4 (i := 178) rfl rfl⟩
theorem cal_X11_deal : ck_cal yX11_deal cX11_deal 3 (some .int) 2 := ⟨ck_inc4 (i := 212) rfl rfl, ck_inc1 (i := 1) rfl rfl, by decide +kernel, by decide +kernel, by decide +kernel⟩
theorem vir_X11_deal : Cond.instanceMethod yX11_deal ∈ ck_T ∧ Cond.selects yX11_deal.cls yX11_deal yX11_deal ∈ ck_T := ⟨ck_inc4 (i := 210) rfl rfl, ck_inc4 (i := 211) rfl rfl⟩
theorem cal_X11_order : ck_cal yX11_order cX11_order 2 (some .int) 1 := ⟨ck_inc4 (i := 232) rfl rfl, ck_inc1 (i := 1) rfl rfl, by decide +kernel, by decide +kernel, by decide +kernel⟩
theorem vir_X11_order : Cond.instanceMethod yX11_order ∈ ck_T ∧ Cond.selects yX11_order.cls yX11_order yX11_order ∈ ck_T := ⟨ck_inc4 (i := 230) rfl rfl, ck_inc4 (i := 231) rfl rfl⟩
theorem cal_X11_enough : ck_cal yX11_enough cX11_enough 4 (some .int) 2 := ⟨ck_inc5 (i := 9) rfl rfl, ck_inc1 (i := 1) rfl rfl, by decide +kernel, by decide +kernel, by decide +kernel⟩
theorem vir_X11_enough : Cond.instanceMethod yX11_enough ∈ ck_T ∧ Cond.selects yX11_enough.cls yX11_enough yX11_enough ∈ ck_T := ⟨ck_inc5 (i := 7) rfl rfl, ck_inc5 (i := 8) rfl rfl⟩
theorem cal_X11_spoil : ck_cal yX11_spoil cX11_spoil 3 (some .int) 2 := ⟨ck_inc5 (i := 13) rfl rfl, ck_inc1 (i := 1) rfl rfl, by decide +kernel, by decide +kernel, by decide +kernel⟩
theorem vir_X11_spoil : Cond.instanceMethod yX11_spoil ∈ ck_T ∧ Cond.selects yX11_spoil.cls yX11_spoil yX11_spoil ∈ ck_T := ⟨ck_inc5 (i := 11) rfl rfl, ck_inc5 (i := 12) rfl rfl⟩
theorem cal_X11_rests : ck_cal yX11_rests cX11_rests 6 (some .int) 1 := ⟨ck_inc5 (i := 32) rfl rfl, ck_inc1 (i := 1) rfl rfl, by decide +kernel, by decide +kernel, by decide +kernel⟩
theorem vir_X11_rests : Cond.instanceMethod yX11_rests ∈ ck_T ∧ Cond.selects yX11_rests.cls yX11_rests yX11_rests ∈ ck_T := ⟨ck_inc5 (i := 30) rfl rfl, ck_inc5 (i := 31) rfl rfl⟩
theorem cal_X11_rest : ck_cal yX11_rest cX11_rest 7 (some .int) 2 := ⟨ck_inc5 (i := 50) rfl rfl, ck_inc1 (i := 1) rfl rfl, by decide +kernel, by decide +kernel, by decide +kernel⟩
theorem vir_X11_rest : Cond.instanceMethod yX11_rest ∈ ck_T ∧ Cond.selects yX11_rest.cls yX11_rest yX11_rest ∈ ck_T := ⟨ck_inc5 (i := 48) rfl rfl, ck_inc5 (i := 49) rfl rfl⟩
theorem cal_X11_twins : ck_cal yX11_twins cX11_twins 4 (some .int) 0 := ⟨ck_inc5 (i := 54) rfl rfl, ck_inc1 (i := 1) rfl rfl, by decide +kernel, by decide +kernel, by decide +kernel⟩
theorem vir_X11_twins : Cond.instanceMethod yX11_twins ∈ ck_T ∧ Cond.selects yX11_twins.cls yX11_twins yX11_twins ∈ ck_T := ⟨ck_inc5 (i := 52) rfl rfl, ck_inc5 (i := 53) rfl rfl⟩
theorem cal_X11_likely : ck_cal yX11_likely cX11_likely 6 (some .int) 2 := ⟨ck_inc5 (i := 62) rfl rfl, ck_inc1 (i := 1) rfl rfl, by decide +kernel, by decide +kernel, by decide +kernel⟩
theorem vir_X11_likely : Cond.instanceMethod yX11_likely ∈ ck_T ∧ Cond.selects yX11_likely.cls yX11_likely yX11_likely ∈ ck_T := ⟨ck_inc5 (i := 60) rfl rfl, ck_inc5 (i := 61) rfl rfl⟩
theorem cal_X11_wholeBy : ck_cal yX11_wholeBy cX11_wholeBy 5 (some .int) 1 := ⟨ck_inc5 (i := 69) rfl rfl, ck_inc1 (i := 1) rfl rfl, by decide +kernel, by decide +kernel, by decide +kernel⟩
theorem vir_X11_wholeBy : Cond.instanceMethod yX11_wholeBy ∈ ck_T ∧ Cond.selects yX11_wholeBy.cls yX11_wholeBy yX11_wholeBy ∈ ck_T := ⟨ck_inc5 (i := 67) rfl rfl, ck_inc5 (i := 68) rfl rfl⟩
theorem cal_X11_docket : ck_cal yX11_docket cX11_docket 4 (some .int) 1 := ⟨ck_inc5 (i := 73) rfl rfl, ck_inc1 (i := 1) rfl rfl, by decide +kernel, by decide +kernel, by decide +kernel⟩
theorem vir_X11_docket : Cond.instanceMethod yX11_docket ∈ ck_T ∧ Cond.selects yX11_docket.cls yX11_docket yX11_docket ∈ ck_T := ⟨ck_inc5 (i := 71) rfl rfl, ck_inc5 (i := 72) rfl rfl⟩
theorem cal_X11_crown : ck_cal yX11_crown cX11_crown 5 (some .int) 0 := ⟨ck_inc5 (i := 77) rfl rfl, ck_inc1 (i := 1) rfl rfl, by decide +kernel, by decide +kernel, by decide +kernel⟩
theorem vir_X11_crown : Cond.instanceMethod yX11_crown ∈ ck_T ∧ Cond.selects yX11_crown.cls yX11_crown yX11_crown ∈ ck_T := ⟨ck_inc5 (i := 75) rfl rfl, ck_inc5 (i := 76) rfl rfl⟩
theorem cal_X11_nextTooth : ck_cal yX11_nextTooth cX11_nextTooth 2 (some .int) 0 := ⟨ck_inc5 (i := 81) rfl rfl, ck_inc1 (i := 1) rfl rfl, by decide +kernel, by decide +kernel, by decide +kernel⟩
theorem vir_X11_nextTooth : Cond.instanceMethod yX11_nextTooth ∈ ck_T ∧ Cond.selects yX11_nextTooth.cls yX11_nextTooth yX11_nextTooth ∈ ck_T := ⟨ck_inc5 (i := 79) rfl rfl, ck_inc5 (i := 80) rfl rfl⟩
theorem cal_X11_note : ck_cal yX11_note cX11_note 4 (some .int) 3 := ⟨ck_inc5 (i := 85) rfl rfl, ck_inc1 (i := 1) rfl rfl, by decide +kernel, by decide +kernel, by decide +kernel⟩
theorem vir_X11_note : Cond.instanceMethod yX11_note ∈ ck_T ∧ Cond.selects yX11_note.cls yX11_note yX11_note ∈ ck_T := ⟨ck_inc5 (i := 83) rfl rfl, ck_inc5 (i := 84) rfl rfl⟩
theorem cal_X11_out : ck_cal yX11_out cX11_out 2 (some .int) 1 := ⟨ck_inc5 (i := 93) rfl rfl, ck_inc1 (i := 1) rfl rfl, by decide +kernel, by decide +kernel, by decide +kernel⟩
theorem vir_X11_out : Cond.instanceMethod yX11_out ∈ ck_T ∧ Cond.selects yX11_out.cls yX11_out yX11_out ∈ ck_T := ⟨ck_inc5 (i := 91) rfl rfl, ck_inc5 (i := 92) rfl rfl⟩
theorem cal_X11_known : ck_cal yX11_known cX11_known 2 (some .boolean) 1 := ⟨ck_inc5 (i := 97) rfl rfl, ck_inc1 (i := 1) rfl rfl, by decide +kernel, by decide +kernel, by decide +kernel⟩
theorem vir_X11_known : Cond.instanceMethod yX11_known ∈ ck_T ∧ Cond.selects yX11_known.cls yX11_known yX11_known ∈ ck_T := ⟨ck_inc5 (i := 95) rfl rfl, ck_inc5 (i := 96) rfl rfl⟩
theorem cal_X11_levers : ck_cal yX11_levers cX11_levers 3 (some .int) 0 := ⟨ck_inc5 (i := 101) rfl rfl, ck_inc1 (i := 1) rfl rfl, by decide +kernel, by decide +kernel, by decide +kernel⟩
theorem vir_X11_levers : Cond.instanceMethod yX11_levers ∈ ck_T ∧ Cond.selects yX11_levers.cls yX11_levers yX11_levers ∈ ck_T := ⟨ck_inc5 (i := 99) rfl rfl, ck_inc5 (i := 100) rfl rfl⟩
theorem cal_X11_chance : ck_cal yX11_chance cX11_chance 6 (some .int) 3 := ⟨ck_inc5 (i := 122) rfl rfl, ck_inc1 (i := 1) rfl rfl, by decide +kernel, by decide +kernel, by decide +kernel⟩
theorem vir_X11_chance : Cond.instanceMethod yX11_chance ∈ ck_T ∧ Cond.selects yX11_chance.cls yX11_chance yX11_chance ∈ ck_T := ⟨ck_inc5 (i := 120) rfl rfl, ck_inc5 (i := 121) rfl rfl⟩
theorem cal_X11_tried : ck_cal yX11_tried cX11_tried 4 (some .int) 3 := ⟨ck_inc5 (i := 127) rfl rfl, ck_inc1 (i := 1) rfl rfl, by decide +kernel, by decide +kernel, by decide +kernel⟩
theorem vir_X11_tried : Cond.instanceMethod yX11_tried ∈ ck_T ∧ Cond.selects yX11_tried.cls yX11_tried yX11_tried ∈ ck_T := ⟨ck_inc5 (i := 125) rfl rfl, ck_inc5 (i := 126) rfl rfl⟩
theorem cal_X11_undo : ck_cal yX11_undo cX11_undo 1 (some .int) 0 := ⟨ck_inc5 (i := 131) rfl rfl, ck_inc1 (i := 1) rfl rfl, by decide +kernel, by decide +kernel, by decide +kernel⟩
theorem vir_X11_undo : Cond.instanceMethod yX11_undo ∈ ck_T ∧ Cond.selects yX11_undo.cls yX11_undo yX11_undo ∈ ck_T := ⟨ck_inc5 (i := 129) rfl rfl, ck_inc5 (i := 130) rfl rfl⟩
theorem cal_X11_keep : ck_cal yX11_keep cX11_keep 1 (some .int) 0 := ⟨ck_inc5 (i := 139) rfl rfl, ck_inc1 (i := 1) rfl rfl, by decide +kernel, by decide +kernel, by decide +kernel⟩
theorem vir_X11_keep : Cond.instanceMethod yX11_keep ∈ ck_T ∧ Cond.selects yX11_keep.cls yX11_keep yX11_keep ∈ ck_T := ⟨ck_inc5 (i := 137) rfl rfl, ck_inc5 (i := 138) rfl rfl⟩
theorem cal_X11_back : ck_cal yX11_back cX11_back 1 (some .int) 0 := ⟨ck_inc5 (i := 143) rfl rfl, ck_inc1 (i := 1) rfl rfl, by decide +kernel, by decide +kernel, by decide +kernel⟩
theorem vir_X11_back : Cond.instanceMethod yX11_back ∈ ck_T ∧ Cond.selects yX11_back.cls yX11_back yX11_back ∈ ck_T := ⟨ck_inc5 (i := 141) rfl rfl, ck_inc5 (i := 142) rfl rfl⟩
theorem cal_X11_count : ck_cal yX11_count cX11_count 2 (some .int) 1 := ⟨ck_inc5 (i := 147) rfl rfl, ck_inc1 (i := 1) rfl rfl, by decide +kernel, by decide +kernel, by decide +kernel⟩
theorem vir_X11_count : Cond.instanceMethod yX11_count ∈ ck_T ∧ Cond.selects yX11_count.cls yX11_count yX11_count ∈ ck_T := ⟨ck_inc5 (i := 145) rfl rfl, ck_inc5 (i := 146) rfl rfl⟩
theorem cal_X11_feedFour : ck_cal yX11_feedFour cX11_feedFour 3 none 1 := ⟨ck_inc3 (i := 93) rfl rfl, ck_inc1 (i := 1) rfl rfl, by decide +kernel, by decide +kernel, by decide +kernel⟩
theorem vir_X11_feedFour : Cond.instanceMethod yX11_feedFour ∈ ck_T ∧ Cond.selects yX11_feedFour.cls yX11_feedFour yX11_feedFour ∈ ck_T := ⟨ck_inc3 (i := 92) rfl rfl, ck_inP (i := 0) (q := (yX11_feedFour, 15)) (by decide +kernel)⟩
theorem cal_X11_isJudge : ck_cal yX11_isJudge cX11_isJudge 2 (some .boolean) 1 := ⟨ck_inc4 (i := 25) rfl rfl, ck_inc1 (i := 1) rfl rfl, by decide +kernel, by decide +kernel, by decide +kernel⟩
theorem vir_X11_isJudge : Cond.instanceMethod yX11_isJudge ∈ ck_T ∧ Cond.selects yX11_isJudge.cls yX11_isJudge yX11_isJudge ∈ ck_T := ⟨ck_inc4 (i := 24) rfl rfl, ck_inP (i := 23) (q := (yX11_isJudge, 15)) (by decide +kernel)⟩
theorem cal_X11_isNut : ck_cal yX11_isNut cX11_isNut 2 (some .boolean) 1 := ⟨ck_inc4 (i := 41) rfl rfl, ck_inc1 (i := 1) rfl rfl, by decide +kernel, by decide +kernel, by decide +kernel⟩
theorem vir_X11_isNut : Cond.instanceMethod yX11_isNut ∈ ck_T ∧ Cond.selects yX11_isNut.cls yX11_isNut yX11_isNut ∈ ck_T := ⟨ck_inc4 (i := 40) rfl rfl, ck_inP (i := 26) (q := (yX11_isNut, 15)) (by decide +kernel)⟩
theorem cal_X11_isSuit : ck_cal yX11_isSuit cX11_isSuit 2 (some .boolean) 1 := ⟨ck_inc4 (i := 107) rfl rfl, ck_inc1 (i := 1) rfl rfl, by decide +kernel, by decide +kernel, by decide +kernel⟩
theorem vir_X11_isSuit : Cond.instanceMethod yX11_isSuit ∈ ck_T ∧ Cond.selects yX11_isSuit.cls yX11_isSuit yX11_isSuit ∈ ck_T := ⟨ck_inc4 (i := 106) rfl rfl, ck_inP (i := 29) (q := (yX11_isSuit, 15)) (by decide +kernel)⟩
theorem cal_X11_isPending : ck_cal yX11_isPending cX11_isPending 2 (some .boolean) 1 := ⟨ck_inc4 (i := 103) rfl rfl, ck_inc1 (i := 1) rfl rfl, by decide +kernel, by decide +kernel, by decide +kernel⟩
theorem vir_X11_isPending : Cond.instanceMethod yX11_isPending ∈ ck_T ∧ Cond.selects yX11_isPending.cls yX11_isPending yX11_isPending ∈ ck_T := ⟨ck_inc4 (i := 102) rfl rfl, ck_inP (i := 28) (q := (yX11_isPending, 15)) (by decide +kernel)⟩
theorem cal_X11_verdictWithoutStone : ck_cal yX11_verdictWithoutStone cX11_verdictWithoutStone 3 (some .int) 2 := ⟨ck_inc4 (i := 49) rfl rfl, ck_inc1 (i := 1) rfl rfl, by decide +kernel, by decide +kernel, by decide +kernel⟩
theorem vir_X11_verdictWithoutStone : Cond.instanceMethod yX11_verdictWithoutStone ∈ ck_T ∧ Cond.selects yX11_verdictWithoutStone.cls yX11_verdictWithoutStone yX11_verdictWithoutStone ∈ ck_T := ⟨ck_inc4 (i := 48) rfl rfl, ck_inP (i := 27) (q := (yX11_verdictWithoutStone, 15)) (by decide +kernel)⟩
theorem cal_X11_verdictNow : ck_cal yX11_verdictNow cX11_verdictNow 2 (some .int) 1 := ⟨ck_inc5 (i := 36) rfl rfl, ck_inc1 (i := 1) rfl rfl, by decide +kernel, by decide +kernel, by decide +kernel⟩
theorem vir_X11_verdictNow : Cond.instanceMethod yX11_verdictNow ∈ ck_T ∧ Cond.selects yX11_verdictNow.cls yX11_verdictNow yX11_verdictNow ∈ ck_T := ⟨ck_inc5 (i := 35) rfl rfl, ck_inP (i := 42) (q := (yX11_verdictNow, 15)) (by decide +kernel)⟩
theorem cal_X11_triedBy : ck_cal yX11_triedBy cX11_triedBy 4 (some .int) 1 := ⟨ck_inc4 (i := 29) rfl rfl, ck_inc1 (i := 1) rfl rfl, by decide +kernel, by decide +kernel, by decide +kernel⟩
theorem vir_X11_triedBy : Cond.instanceMethod yX11_triedBy ∈ ck_T ∧ Cond.selects yX11_triedBy.cls yX11_triedBy yX11_triedBy ∈ ck_T := ⟨ck_inc4 (i := 28) rfl rfl, ck_inP (i := 24) (q := (yX11_triedBy, 15)) (by decide +kernel)⟩
theorem cal_X11_wholeOnesBy : ck_cal yX11_wholeOnesBy cX11_wholeOnesBy 4 (some .int) 1 := ⟨ck_inc4 (i := 33) rfl rfl, ck_inc1 (i := 1) rfl rfl, by decide +kernel, by decide +kernel, by decide +kernel⟩
theorem vir_X11_wholeOnesBy : Cond.instanceMethod yX11_wholeOnesBy ∈ ck_T ∧ Cond.selects yX11_wholeOnesBy.cls yX11_wholeOnesBy yX11_wholeOnesBy ∈ ck_T := ⟨ck_inc4 (i := 32) rfl rfl, ck_inP (i := 25) (q := (yX11_wholeOnesBy, 15)) (by decide +kernel)⟩
theorem cal_X11_verdictsOf : ck_cal yX11_verdictsOf cX11_verdictsOf 5 (some .int) 2 := ⟨ck_inc4 (i := 192) rfl rfl, ck_inc1 (i := 1) rfl rfl, by decide +kernel, by decide +kernel, by decide +kernel⟩
theorem vir_X11_verdictsOf : Cond.instanceMethod yX11_verdictsOf ∈ ck_T ∧ Cond.selects yX11_verdictsOf.cls yX11_verdictsOf yX11_verdictsOf ∈ ck_T := ⟨ck_inc4 (i := 191) rfl rfl, ck_inP (i := 35) (q := (yX11_verdictsOf, 15)) (by decide +kernel)⟩
theorem cal_X11_teethOf : ck_cal yX11_teethOf cX11_teethOf 4 (some .int) 1 := ⟨ck_inc4 (i := 208) rfl rfl, ck_inc1 (i := 1) rfl rfl, by decide +kernel, by decide +kernel, by decide +kernel⟩
theorem vir_X11_teethOf : Cond.instanceMethod yX11_teethOf ∈ ck_T ∧ Cond.selects yX11_teethOf.cls yX11_teethOf yX11_teethOf ∈ ck_T := ⟨ck_inc4 (i := 207) rfl rfl, ck_inP (i := 36) (q := (yX11_teethOf, 15)) (by decide +kernel)⟩
theorem cal_X11_worthOfCrumbs : ck_cal yX11_worthOfCrumbs cX11_worthOfCrumbs 3 (some .int) 0 := ⟨ck_inc5 (i := 152) rfl rfl, ck_inc1 (i := 1) rfl rfl, by decide +kernel, by decide +kernel, by decide +kernel⟩
theorem vir_X11_worthOfCrumbs : Cond.instanceMethod yX11_worthOfCrumbs ∈ ck_T ∧ Cond.selects yX11_worthOfCrumbs.cls yX11_worthOfCrumbs yX11_worthOfCrumbs ∈ ck_T := ⟨ck_inc5 (i := 151) rfl rfl, ck_inP (i := 44) (q := (yX11_worthOfCrumbs, 15)) (by decide +kernel)⟩
theorem cal_X11_areTwins : ck_cal yX11_areTwins cX11_areTwins 3 (some .boolean) 2 := ⟨ck_inc5 (i := 58) rfl rfl, ck_inc1 (i := 1) rfl rfl, by decide +kernel, by decide +kernel, by decide +kernel⟩
theorem vir_X11_areTwins : Cond.instanceMethod yX11_areTwins ∈ ck_T ∧ Cond.selects yX11_areTwins.cls yX11_areTwins yX11_areTwins ∈ ck_T := ⟨ck_inc5 (i := 57) rfl rfl, ck_inP (i := 43) (q := (yX11_areTwins, 15)) (by decide +kernel)⟩
theorem cal_X11_commonWithTen : ck_cal yX11_commonWithTen cX11_commonWithTen 2 (some .int) 1 := ⟨ck_inc5 (i := 65) rfl rfl, ck_inc1 (i := 1) rfl rfl, by decide +kernel, by decide +kernel, by decide +kernel⟩
theorem sta_X11_commonWithTen : Cond.static yX11_commonWithTen ∈ ck_T := ck_inc5 (i := 64) rfl rfl
theorem cal_X11_isRest : ck_cal yX11_isRest cX11_isRest 4 (some .boolean) 4 := ⟨ck_inc5 (i := 40) rfl rfl, ck_inc1 (i := 1) rfl rfl, by decide +kernel, by decide +kernel, by decide +kernel⟩
theorem sta_X11_isRest : Cond.static yX11_isRest ∈ ck_T := ck_inc5 (i := 39) rfl rfl
theorem cal_X11_shareOfFirst : ck_cal yX11_shareOfFirst cX11_shareOfFirst 5 (some .int) 4 := ⟨ck_inc5 (i := 43) rfl rfl, ck_inc1 (i := 1) rfl rfl, by decide +kernel, by decide +kernel, by decide +kernel⟩
theorem sta_X11_shareOfFirst : Cond.static yX11_shareOfFirst ∈ ck_T := ck_inc5 (i := 42) rfl rfl
theorem cal_X11_shareOfSecond : ck_cal yX11_shareOfSecond cX11_shareOfSecond 4 (some .int) 4 := ⟨ck_inc5 (i := 46) rfl rfl, ck_inc1 (i := 1) rfl rfl, by decide +kernel, by decide +kernel, by decide +kernel⟩
theorem sta_X11_shareOfSecond : Cond.static yX11_shareOfSecond ∈ ck_T := ck_inc5 (i := 45) rfl rfl
theorem cal_X12_init : ck_cal yX12_init cX12_init 1 none 0 := ⟨ck_inc6 (i := 10) rfl rfl, ck_inc1 (i := 18) rfl rfl, by decide +kernel, by decide +kernel, by decide +kernel⟩
theorem ins_X12_init : Cond.instanceMethod yX12_init ∈ ck_T := ck_inc6 (i := 9) rfl rfl
theorem cal_X12_thrown : ck_cal yX12_thrown cX12_thrown 1 (some .int) 0 := ⟨ck_inc6 (i := 235) rfl rfl, ck_inc1 (i := 18) rfl rfl, by decide +kernel, by decide +kernel, by decide +kernel⟩
theorem vir_X12_thrown : Cond.instanceMethod yX12_thrown ∈ ck_T ∧ Cond.selects yX12_thrown.cls yX12_thrown yX12_thrown ∈ ck_T := ⟨ck_inc6 (i := 233) rfl rfl, ck_inc6 (i := 234) rfl rfl⟩
theorem cal_X12_feed : ck_cal yX12_feed cX12_feed 8 (some .int) 5 := ⟨ck_inc6 (i := 239) rfl rfl, ck_inc1 (i := 18) rfl rfl, by decide +kernel, by decide +kernel, by decide +kernel⟩
theorem vir_X12_feed : Cond.instanceMethod yX12_feed ∈ ck_T ∧ Cond.selects yX12_feed.cls yX12_feed yX12_feed ∈ ck_T := ⟨ck_inc6 (i := 237) rfl rfl, ck_inc6 (i := 238) rfl rfl⟩
theorem cal_X12_here : ck_cal yX12_here cX12_here 1 (some .int) 0 := ⟨ck_inc7 (i := 15) rfl rfl, ck_inc1 (i := 18) rfl rfl, by decide +kernel, by decide +kernel, by decide +kernel⟩
theorem vir_X12_here : Cond.instanceMethod yX12_here ∈ ck_T ∧ Cond.selects yX12_here.cls yX12_here yX12_here ∈ ck_T := ⟨ck_inc7 (i := 14) rfl rfl, ck_inP (i := 51) (q := (yX12_here, 69)) (by decide +kernel)⟩
theorem cal_X12_isSmall : ck_cal yX12_isSmall cX12_isSmall 1 (some .boolean) 1 := ⟨ck_inc7 (i := 18) rfl rfl, ck_inc1 (i := 18) rfl rfl, by decide +kernel, by decide +kernel, by decide +kernel⟩
theorem sta_X12_isSmall : Cond.static yX12_isSmall ∈ ck_T := ck_inc7 (i := 17) rfl rfl
theorem cal_X12_isDigit : ck_cal yX12_isDigit cX12_isDigit 1 (some .boolean) 1 := ⟨ck_inc7 (i := 32) rfl rfl, ck_inc1 (i := 18) rfl rfl, by decide +kernel, by decide +kernel, by decide +kernel⟩
theorem sta_X12_isDigit : Cond.static yX12_isDigit ∈ ck_T := ck_inc7 (i := 31) rfl rfl
theorem cal_X12_token : ck_cal yX12_token cX12_token 2 none 0 := ⟨ck_inc7 (i := 11) rfl rfl, ck_inc1 (i := 18) rfl rfl, by decide +kernel, by decide +kernel, by decide +kernel⟩
theorem vir_X12_token : Cond.instanceMethod yX12_token ∈ ck_T ∧ Cond.selects yX12_token.cls yX12_token yX12_token ∈ ck_T := ⟨ck_inc7 (i := 10) rfl rfl, ck_inP (i := 50) (q := (yX12_token, 69)) (by decide +kernel)⟩
theorem cal_X12_sign : ck_cal yX12_sign cX12_sign 2 none 1 := ⟨ck_inc7 (i := 37) rfl rfl, ck_inc1 (i := 18) rfl rfl, by decide +kernel, by decide +kernel, by decide +kernel⟩
theorem vir_X12_sign : Cond.instanceMethod yX12_sign ∈ ck_T ∧ Cond.selects yX12_sign.cls yX12_sign yX12_sign ∈ ck_T := ⟨ck_inc7 (i := 36) rfl rfl, ck_inP (i := 54) (q := (yX12_sign, 69)) (by decide +kernel)⟩
theorem cal_X12_word : ck_cal yX12_word cX12_word 4 (some .int) 0 := ⟨ck_inc7 (i := 22) rfl rfl, ck_inc1 (i := 18) rfl rfl, by decide +kernel, by decide +kernel, by decide +kernel⟩
theorem vir_X12_word : Cond.instanceMethod yX12_word ∈ ck_T ∧ Cond.selects yX12_word.cls yX12_word yX12_word ∈ ck_T := ⟨ck_inc7 (i := 21) rfl rfl, ck_inP (i := 52) (q := (yX12_word, 69)) (by decide +kernel)⟩
theorem cal_X12_name : ck_cal yX12_name cX12_name 2 none 0 := ⟨ck_inc7 (i := 29) rfl rfl, ck_inc1 (i := 18) rfl rfl, by decide +kernel, by decide +kernel, by decide +kernel⟩
theorem vir_X12_name : Cond.instanceMethod yX12_name ∈ ck_T ∧ Cond.selects yX12_name.cls yX12_name yX12_name ∈ ck_T := ⟨ck_inc7 (i := 28) rfl rfl, ck_inP (i := 53) (q := (yX12_name, 69)) (by decide +kernel)⟩
theorem cal_X12_wrong : ck_cal yX12_wrong cX12_wrong 2 none 1 := ⟨ck_inc7 (i := 45) rfl rfl, ck_inc1 (i := 18) rfl rfl, by decide +kernel, by decide +kernel, by decide +kernel⟩
theorem vir_X12_wrong : Cond.instanceMethod yX12_wrong ∈ ck_T ∧ Cond.selects yX12_wrong.cls yX12_wrong yX12_wrong ∈ ck_T := ⟨ck_inc7 (i := 44) rfl rfl, ck_inP (i := 56) (q := (yX12_wrong, 69)) (by decide +kernel)⟩
theorem cal_X12_isWord : ck_cal yX12_isWord cX12_isWord 2 (some .boolean) 1 := ⟨ck_inc7 (i := 92) rfl rfl, ck_inc1 (i := 18) rfl rfl, by decide +kernel, by decide +kernel, by decide +kernel⟩
theorem vir_X12_isWord : Cond.instanceMethod yX12_isWord ∈ ck_T ∧ Cond.selects yX12_isWord.cls yX12_isWord yX12_isWord ∈ ck_T := ⟨ck_inc7 (i := 91) rfl rfl, ck_inP (i := 67) (q := (yX12_isWord, 69)) (by decide +kernel)⟩
theorem cal_X12_isSign : ck_cal yX12_isSign cX12_isSign 2 (some .boolean) 1 := ⟨ck_inc7 (i := 116) rfl rfl, ck_inc1 (i := 18) rfl rfl, by decide +kernel, by decide +kernel, by decide +kernel⟩
theorem vir_X12_isSign : Cond.instanceMethod yX12_isSign ∈ ck_T ∧ Cond.selects yX12_isSign.cls yX12_isSign yX12_isSign ∈ ck_T := ⟨ck_inc7 (i := 115) rfl rfl, ck_inP (i := 73) (q := (yX12_isSign, 69)) (by decide +kernel)⟩
theorem cal_X12_goOn : ck_cal yX12_goOn cX12_goOn 1 none 0 := ⟨ck_inc7 (i := 72) rfl rfl, ck_inc1 (i := 18) rfl rfl, by decide +kernel, by decide +kernel, by decide +kernel⟩
theorem vir_X12_goOn : Cond.instanceMethod yX12_goOn ∈ ck_T ∧ Cond.selects yX12_goOn.cls yX12_goOn yX12_goOn ∈ ck_T := ⟨ck_inc7 (i := 71) rfl rfl, ck_inP (i := 62) (q := (yX12_goOn, 69)) (by decide +kernel)⟩
theorem cal_X12_numeral : ck_cal yX12_numeral cX12_numeral 4 (some .int) 2 := ⟨ck_inc7 (i := 64) rfl rfl, ck_inc1 (i := 18) rfl rfl, by decide +kernel, by decide +kernel, by decide +kernel⟩
theorem vir_X12_numeral : Cond.instanceMethod yX12_numeral ∈ ck_T ∧ Cond.selects yX12_numeral.cls yX12_numeral yX12_numeral ∈ ck_T := ⟨ck_inc7 (i := 63) rfl rfl, ck_inP (i := 60) (q := (yX12_numeral, 69)) (by decide +kernel)⟩
theorem cal_X12_found : ck_cal yX12_found cX12_found 5 (some .int) 4 := ⟨ck_inc7 (i := 60) rfl rfl, ck_inc1 (i := 18) rfl rfl, by decide +kernel, by decide +kernel, by decide +kernel⟩
theorem sta_X12_found : Cond.static yX12_found ∈ ck_T := ck_inc7 (i := 59) rfl rfl
theorem cal_X12_fresh : ck_cal yX12_fresh cX12_fresh 5 (some .int) 3 := ⟨ck_inc7 (i := 57) rfl rfl, ck_inc1 (i := 18) rfl rfl, by decide +kernel, by decide +kernel, by decide +kernel⟩
theorem vir_X12_fresh : Cond.instanceMethod yX12_fresh ∈ ck_T ∧ Cond.selects yX12_fresh.cls yX12_fresh yX12_fresh ∈ ck_T := ⟨ck_inc7 (i := 56) rfl rfl, ck_inP (i := 59) (q := (yX12_fresh, 69)) (by decide +kernel)⟩
theorem cal_X12_fresher : ck_cal yX12_fresher cX12_fresher 2 (some .int) 1 := ⟨ck_inc7 (i := 53) rfl rfl, ck_inc1 (i := 18) rfl rfl, by decide +kernel, by decide +kernel, by decide +kernel⟩
theorem vir_X12_fresher : Cond.instanceMethod yX12_fresher ∈ ck_T ∧ Cond.selects yX12_fresher.cls yX12_fresher yX12_fresher ∈ ck_T := ⟨ck_inc7 (i := 52) rfl rfl, ck_inP (i := 58) (q := (yX12_fresher, 69)) (by decide +kernel)⟩
theorem cal_X12_reads : ck_cal yX12_reads cX12_reads 3 none 2 := ⟨ck_inc7 (i := 7) rfl rfl, ck_inc1 (i := 18) rfl rfl, by decide +kernel, by decide +kernel, by decide +kernel⟩
theorem vir_X12_reads : Cond.instanceMethod yX12_reads ∈ ck_T ∧ Cond.selects yX12_reads.cls yX12_reads yX12_reads ∈ ck_T := ⟨ck_inc7 (i := 6) rfl rfl, ck_inP (i := 49) (q := (yX12_reads, 69)) (by decide +kernel)⟩
theorem cal_X12_toldAhead : ck_cal yX12_toldAhead cX12_toldAhead 5 (some .int) 3 := ⟨ck_inc7 (i := 68) rfl rfl, ck_inc1 (i := 18) rfl rfl, by decide +kernel, by decide +kernel, by decide +kernel⟩
theorem vir_X12_toldAhead : Cond.instanceMethod yX12_toldAhead ∈ ck_T ∧ Cond.selects yX12_toldAhead.cls yX12_toldAhead yX12_toldAhead ∈ ck_T := ⟨ck_inc7 (i := 67) rfl rfl, ck_inP (i := 61) (q := (yX12_toldAhead, 69)) (by decide +kernel)⟩
theorem cal_X12_isFull : ck_cal yX12_isFull cX12_isFull 2 (some .boolean) 1 := ⟨ck_inc7 (i := 49) rfl rfl, ck_inc1 (i := 18) rfl rfl, by decide +kernel, by decide +kernel, by decide +kernel⟩
theorem vir_X12_isFull : Cond.instanceMethod yX12_isFull ∈ ck_T ∧ Cond.selects yX12_isFull.cls yX12_isFull yX12_isFull ∈ ck_T := ⟨ck_inc7 (i := 48) rfl rfl, ck_inP (i := 57) (q := (yX12_isFull, 69)) (by decide +kernel)⟩
theorem cal_X12_line : ck_cal yX12_line cX12_line 5 none 0 := ⟨ck_inc7 (i := 41) rfl rfl, ck_inc1 (i := 18) rfl rfl, by decide +kernel, by decide +kernel, by decide +kernel⟩
theorem vir_X12_line : Cond.instanceMethod yX12_line ∈ ck_T ∧ Cond.selects yX12_line.cls yX12_line yX12_line ∈ ck_T := ⟨ck_inc7 (i := 40) rfl rfl, ck_inP (i := 55) (q := (yX12_line, 69)) (by decide +kernel)⟩
theorem cal_X12_lawLine : ck_cal yX12_lawLine cX12_lawLine 2 none 0 := ⟨ck_inc7 (i := 76) rfl rfl, ck_inc1 (i := 18) rfl rfl, by decide +kernel, by decide +kernel, by decide +kernel⟩
theorem vir_X12_lawLine : Cond.instanceMethod yX12_lawLine ∈ ck_T ∧ Cond.selects yX12_lawLine.cls yX12_lawLine yX12_lawLine ∈ ck_T := ⟨ck_inc7 (i := 75) rfl rfl, ck_inP (i := 63) (q := (yX12_lawLine, 69)) (by decide +kernel)⟩
theorem cal_X12_puts : ck_cal yX12_puts cX12_puts 3 none 2 := ⟨ck_inc7 (i := 100) rfl rfl, ck_inc1 (i := 18) rfl rfl, by decide +kernel, by decide +kernel, by decide +kernel⟩
theorem vir_X12_puts : Cond.instanceMethod yX12_puts ∈ ck_T ∧ Cond.selects yX12_puts.cls yX12_puts yX12_puts ∈ ck_T := ⟨ck_inc7 (i := 99) rfl rfl, ck_inP (i := 69) (q := (yX12_puts, 69)) (by decide +kernel)⟩
theorem cal_X12_knot : ck_cal yX12_knot cX12_knot 1 none 0 := ⟨ck_inc7 (i := 96) rfl rfl, ck_inc1 (i := 18) rfl rfl, by decide +kernel, by decide +kernel, by decide +kernel⟩
theorem vir_X12_knot : Cond.instanceMethod yX12_knot ∈ ck_T ∧ Cond.selects yX12_knot.cls yX12_knot yX12_knot ∈ ck_T := ⟨ck_inc7 (i := 95) rfl rfl, ck_inP (i := 68) (q := (yX12_knot, 69)) (by decide +kernel)⟩
theorem cal_X12_expression : ck_cal yX12_expression cX12_expression 1 none 0 := ⟨ck_inc7 (i := 80) rfl rfl, ck_inc1 (i := 18) rfl rfl, by decide +kernel, by decide +kernel, by decide +kernel⟩
theorem vir_X12_expression : Cond.instanceMethod yX12_expression ∈ ck_T ∧ Cond.selects yX12_expression.cls yX12_expression yX12_expression ∈ ck_T := ⟨ck_inc7 (i := 79) rfl rfl, ck_inP (i := 64) (q := (yX12_expression, 69)) (by decide +kernel)⟩
theorem cal_X12_conjunction : ck_cal yX12_conjunction cX12_conjunction 1 none 0 := ⟨ck_inc7 (i := 84) rfl rfl, ck_inc1 (i := 18) rfl rfl, by decide +kernel, by decide +kernel, by decide +kernel⟩
theorem vir_X12_conjunction : Cond.instanceMethod yX12_conjunction ∈ ck_T ∧ Cond.selects yX12_conjunction.cls yX12_conjunction yX12_conjunction ∈ ck_T := ⟨ck_inc7 (i := 83) rfl rfl, ck_inP (i := 65) (q := (yX12_conjunction, 69)) (by decide +kernel)⟩
theorem cal_X12_negation : ck_cal yX12_negation cX12_negation 2 none 0 := ⟨ck_inc7 (i := 88) rfl rfl, ck_inc1 (i := 18) rfl rfl, by decide +kernel, by decide +kernel, by decide +kernel⟩
theorem vir_X12_negation : Cond.instanceMethod yX12_negation ∈ ck_T ∧ Cond.selects yX12_negation.cls yX12_negation yX12_negation ∈ ck_T := ⟨ck_inc7 (i := 87) rfl rfl, ck_inP (i := 66) (q := (yX12_negation, 69)) (by decide +kernel)⟩
theorem cal_X12_sum : ck_cal yX12_sum cX12_sum 2 none 0 := ⟨ck_inc7 (i := 104) rfl rfl, ck_inc1 (i := 18) rfl rfl, by decide +kernel, by decide +kernel, by decide +kernel⟩
theorem vir_X12_sum : Cond.instanceMethod yX12_sum ∈ ck_T ∧ Cond.selects yX12_sum.cls yX12_sum yX12_sum ∈ ck_T := ⟨ck_inc7 (i := 103) rfl rfl, ck_inP (i := 70) (q := (yX12_sum, 69)) (by decide +kernel)⟩
theorem cal_X12_product : ck_cal yX12_product cX12_product 2 none 0 := ⟨ck_inc7 (i := 108) rfl rfl, ck_inc1 (i := 18) rfl rfl, by decide +kernel, by decide +kernel, by decide +kernel⟩
theorem vir_X12_product : Cond.instanceMethod yX12_product ∈ ck_T ∧ Cond.selects yX12_product.cls yX12_product yX12_product ∈ ck_T := ⟨ck_inc7 (i := 107) rfl rfl, ck_inP (i := 71) (q := (yX12_product, 69)) (by decide +kernel)⟩
theorem cal_X12_primary : ck_cal yX12_primary cX12_primary 2 none 0 := ⟨ck_inc7 (i := 112) rfl rfl, ck_inc1 (i := 18) rfl rfl, by decide +kernel, by decide +kernel, by decide +kernel⟩
theorem vir_X12_primary : Cond.instanceMethod yX12_primary ∈ ck_T ∧ Cond.selects yX12_primary.cls yX12_primary yX12_primary ∈ ck_T := ⟨ck_inc7 (i := 111) rfl rfl, ck_inP (i := 72) (q := (yX12_primary, 69)) (by decide +kernel)⟩
theorem cal_X12_half : ck_cal yX12_half cX12_half 3 none 1 := ⟨ck_inc7 (i := 119) rfl rfl, ck_inc1 (i := 18) rfl rfl, by decide +kernel, by decide +kernel, by decide +kernel⟩
theorem sta_X12_half : Cond.static yX12_half ∈ ck_T := ck_inc7 (i := 118) rfl rfl
theorem cal_X12_text : ck_cal yX12_text cX12_text 3 (some .int) 1 := ⟨ck_inc7 (i := 3) rfl rfl, ck_inc1 (i := 18) rfl rfl, by decide +kernel, by decide +kernel, by decide +kernel⟩
theorem vir_X12_text : Cond.instanceMethod yX12_text ∈ ck_T ∧ Cond.selects yX12_text.cls yX12_text yX12_text ∈ ck_T := ⟨ck_inc7 (i := 1) rfl rfl, ck_inc7 (i := 2) rfl rfl⟩
theorem cal_X12_fault : ck_cal yX12_fault cX12_fault 2 (some .int) 1 := ⟨ck_inc7 (i := 123) rfl rfl, ck_inc1 (i := 18) rfl rfl, by decide +kernel, by decide +kernel, by decide +kernel⟩
theorem vir_X12_fault : Cond.instanceMethod yX12_fault ∈ ck_T ∧ Cond.selects yX12_fault.cls yX12_fault yX12_fault ∈ ck_T := ⟨ck_inc7 (i := 121) rfl rfl, ck_inc7 (i := 122) rfl rfl⟩
theorem cal_X12_named : ck_cal yX12_named cX12_named 3 (some .int) 2 := ⟨ck_inc7 (i := 127) rfl rfl, ck_inc1 (i := 18) rfl rfl, by decide +kernel, by decide +kernel, by decide +kernel⟩
theorem vir_X12_named : Cond.instanceMethod yX12_named ∈ ck_T ∧ Cond.selects yX12_named.cls yX12_named yX12_named ∈ ck_T := ⟨ck_inc7 (i := 125) rfl rfl, ck_inc7 (i := 126) rfl rfl⟩
theorem cal_X12_is : ck_cal yX12_is cX12_is 1 (some .long) 1 := ⟨ck_inc7 (i := 194) rfl rfl, ck_inc1 (i := 18) rfl rfl, by decide +kernel, by decide +kernel, by decide +kernel⟩
theorem sta_X12_is : Cond.static yX12_is ∈ ck_T := ck_inc7 (i := 193) rfl rfl
theorem cal_X12_works : ck_cal yX12_works cX12_works 8 (some .boolean) 1 := ⟨ck_inc7 (i := 191) rfl rfl, ck_inc1 (i := 18) rfl rfl, by decide +kernel, by decide +kernel, by decide +kernel⟩
theorem vir_X12_works : Cond.instanceMethod yX12_works ∈ ck_T ∧ Cond.selects yX12_works.cls yX12_works yX12_works ∈ ck_T := ⟨ck_inc7 (i := 190) rfl rfl, ck_inP (i := 85) (q := (yX12_works, 69)) (by decide +kernel)⟩
theorem cal_X12_goes : ck_cal yX12_goes cX12_goes 3 (some .boolean) 1 := ⟨ck_inc7 (i := 187) rfl rfl, ck_inc1 (i := 18) rfl rfl, by decide +kernel, by decide +kernel, by decide +kernel⟩
theorem vir_X12_goes : Cond.instanceMethod yX12_goes ∈ ck_T ∧ Cond.selects yX12_goes.cls yX12_goes yX12_goes ∈ ck_T := ⟨ck_inc7 (i := 186) rfl rfl, ck_inP (i := 84) (q := (yX12_goes, 69)) (by decide +kernel)⟩
theorem cal_X12_hasLaw : ck_cal yX12_hasLaw cX12_hasLaw 2 (some .boolean) 1 := ⟨ck_inc7 (i := 183) rfl rfl, ck_inc1 (i := 18) rfl rfl, by decide +kernel, by decide +kernel, by decide +kernel⟩
theorem vir_X12_hasLaw : Cond.instanceMethod yX12_hasLaw ∈ ck_T ∧ Cond.selects yX12_hasLaw.cls yX12_hasLaw yX12_hasLaw ∈ ck_T := ⟨ck_inc7 (i := 182) rfl rfl, ck_inP (i := 83) (q := (yX12_hasLaw, 69)) (by decide +kernel)⟩
theorem cal_X12_leverAs : ck_cal yX12_leverAs cX12_leverAs 1 (some .int) 0 := ⟨ck_inc6 (i := 23) rfl rfl, ck_inc1 (i := 18) rfl rfl, by decide +kernel, by decide +kernel, by decide +kernel⟩
theorem vir_X12_leverAs : Cond.instanceMethod yX12_leverAs ∈ ck_T ∧ Cond.selects yX12_leverAs.cls yX12_leverAs yX12_leverAs ∈ ck_T := ⟨ck_inc6 (i := 22) rfl rfl, ck_inP (i := 48) (q := (yX12_leverAs, 69)) (by decide +kernel)⟩
theorem cal_X12_starts : ck_cal yX12_starts cX12_starts 4 none 1 := ⟨ck_inc6 (i := 19) rfl rfl, ck_inc1 (i := 18) rfl rfl, by decide +kernel, by decide +kernel, by decide +kernel⟩
theorem vir_X12_starts : Cond.instanceMethod yX12_starts ∈ ck_T ∧ Cond.selects yX12_starts.cls yX12_starts yX12_starts ∈ ck_T := ⟨ck_inc6 (i := 18) rfl rfl, ck_inP (i := 47) (q := (yX12_starts, 69)) (by decide +kernel)⟩
theorem cal_X12_begins : ck_cal yX12_begins cX12_begins 1 none 0 := ⟨ck_inc6 (i := 15) rfl rfl, ck_inc1 (i := 18) rfl rfl, by decide +kernel, by decide +kernel, by decide +kernel⟩
theorem vir_X12_begins : Cond.instanceMethod yX12_begins ∈ ck_T ∧ Cond.selects yX12_begins.cls yX12_begins yX12_begins ∈ ck_T := ⟨ck_inc6 (i := 14) rfl rfl, ck_inP (i := 46) (q := (yX12_begins, 69)) (by decide +kernel)⟩
theorem cal_X12_copies : ck_cal yX12_copies cX12_copies 4 none 2 := ⟨ck_inc7 (i := 238) rfl rfl, ck_inc1 (i := 18) rfl rfl, by decide +kernel, by decide +kernel, by decide +kernel⟩
theorem vir_X12_copies : Cond.instanceMethod yX12_copies ∈ ck_T ∧ Cond.selects yX12_copies.cls yX12_copies yX12_copies ∈ ck_T := ⟨ck_inc7 (i := 237) rfl rfl, ck_inP (i := 89) (q := (yX12_copies, 69)) (by decide +kernel)⟩
theorem cal_X12_isJudge : ck_cal yX12_isJudge cX12_isJudge 2 (some .boolean) 1 := ⟨ck_inc7 (i := 147) rfl rfl, ck_inc1 (i := 18) rfl rfl, by decide +kernel, by decide +kernel, by decide +kernel⟩
theorem vir_X12_isJudge : Cond.instanceMethod yX12_isJudge ∈ ck_T ∧ Cond.selects yX12_isJudge.cls yX12_isJudge yX12_isJudge ∈ ck_T := ⟨ck_inc7 (i := 146) rfl rfl, ck_inP (i := 76) (q := (yX12_isJudge, 69)) (by decide +kernel)⟩
theorem cal_X12_isNut : ck_cal yX12_isNut cX12_isNut 2 (some .boolean) 1 := ⟨ck_inc7 (i := 163) rfl rfl, ck_inc1 (i := 18) rfl rfl, by decide +kernel, by decide +kernel, by decide +kernel⟩
theorem vir_X12_isNut : Cond.instanceMethod yX12_isNut ∈ ck_T ∧ Cond.selects yX12_isNut.cls yX12_isNut yX12_isNut ∈ ck_T := ⟨ck_inc7 (i := 162) rfl rfl, ck_inP (i := 79) (q := (yX12_isNut, 69)) (by decide +kernel)⟩
theorem cal_X12_isSuit : ck_cal yX12_isSuit cX12_isSuit 2 (some .boolean) 1 := ⟨ck_inc7 (i := 135) rfl rfl, ck_inc1 (i := 18) rfl rfl, by decide +kernel, by decide +kernel, by decide +kernel⟩
theorem vir_X12_isSuit : Cond.instanceMethod yX12_isSuit ∈ ck_T ∧ Cond.selects yX12_isSuit.cls yX12_isSuit yX12_isSuit ∈ ck_T := ⟨ck_inc7 (i := 134) rfl rfl, ck_inP (i := 74) (q := (yX12_isSuit, 69)) (by decide +kernel)⟩
theorem cal_X12_isOpen : ck_cal yX12_isOpen cX12_isOpen 3 (some .boolean) 2 := ⟨ck_inc7 (i := 155) rfl rfl, ck_inc1 (i := 18) rfl rfl, by decide +kernel, by decide +kernel, by decide +kernel⟩
theorem vir_X12_isOpen : Cond.instanceMethod yX12_isOpen ∈ ck_T ∧ Cond.selects yX12_isOpen.cls yX12_isOpen yX12_isOpen ∈ ck_T := ⟨ck_inc7 (i := 154) rfl rfl, ck_inP (i := 78) (q := (yX12_isOpen, 69)) (by decide +kernel)⟩
theorem cal_X12_calls : ck_cal yX12_calls cX12_calls 5 none 4 := ⟨ck_inc7 (i := 175) rfl rfl, ck_inc1 (i := 18) rfl rfl, by decide +kernel, by decide +kernel, by decide +kernel⟩
theorem vir_X12_calls : Cond.instanceMethod yX12_calls ∈ ck_T ∧ Cond.selects yX12_calls.cls yX12_calls yX12_calls ∈ ck_T := ⟨ck_inc7 (i := 174) rfl rfl, ck_inP (i := 81) (q := (yX12_calls, 69)) (by decide +kernel)⟩
theorem cal_X12_within : ck_cal yX12_within cX12_within 5 (some .int) 4 := ⟨ck_inc7 (i := 179) rfl rfl, ck_inc1 (i := 18) rfl rfl, by decide +kernel, by decide +kernel, by decide +kernel⟩
theorem vir_X12_within : Cond.instanceMethod yX12_within ∈ ck_T ∧ Cond.selects yX12_within.cls yX12_within yX12_within ∈ ck_T := ⟨ck_inc7 (i := 178) rfl rfl, ck_inP (i := 82) (q := (yX12_within, 69)) (by decide +kernel)⟩
theorem cal_X12_forceOf : ck_cal yX12_forceOf cX12_forceOf 6 (some .int) 4 := ⟨ck_inc7 (i := 171) rfl rfl, ck_inc1 (i := 18) rfl rfl, by decide +kernel, by decide +kernel, by decide +kernel⟩
theorem vir_X12_forceOf : Cond.instanceMethod yX12_forceOf ∈ ck_T ∧ Cond.selects yX12_forceOf.cls yX12_forceOf yX12_forceOf ∈ ck_T := ⟨ck_inc7 (i := 170) rfl rfl, ck_inP (i := 80) (q := (yX12_forceOf, 69)) (by decide +kernel)⟩
theorem cal_X12_slackOf : ck_cal yX12_slackOf cX12_slackOf 5 (some .int) 4 := ⟨ck_inc7 (i := 213) rfl rfl, ck_inc1 (i := 18) rfl rfl, by decide +kernel, by decide +kernel, by decide +kernel⟩
theorem vir_X12_slackOf : Cond.instanceMethod yX12_slackOf ∈ ck_T ∧ Cond.selects yX12_slackOf.cls yX12_slackOf yX12_slackOf ∈ ck_T := ⟨ck_inc7 (i := 212) rfl rfl, ck_inP (i := 86) (q := (yX12_slackOf, 69)) (by decide +kernel)⟩
theorem cal_X12_verdictAt : ck_cal yX12_verdictAt cX12_verdictAt 7 (some .int) 4 := ⟨ck_inc7 (i := 221) rfl rfl, ck_inc1 (i := 18) rfl rfl, by decide +kernel, by decide +kernel, by decide +kernel⟩
theorem vir_X12_verdictAt : Cond.instanceMethod yX12_verdictAt ∈ ck_T ∧ Cond.selects yX12_verdictAt.cls yX12_verdictAt yX12_verdictAt ∈ ck_T := ⟨ck_inc7 (i := 220) rfl rfl, ck_inP (i := 87) (q := (yX12_verdictAt, 69)) (by decide +kernel)⟩
theorem cal_X12_hardness : ck_cal yX12_hardness cX12_hardness 3 (some .int) 2 := ⟨ck_inc8 (i := 34) rfl rfl, ck_inc1 (i := 18) rfl rfl, by decide +kernel, by decide +kernel, by decide +kernel⟩
theorem vir_X12_hardness : Cond.instanceMethod yX12_hardness ∈ ck_T ∧ Cond.selects yX12_hardness.cls yX12_hardness yX12_hardness ∈ ck_T := ⟨ck_inc8 (i := 33) rfl rfl, ck_inP (i := 94) (q := (yX12_hardness, 69)) (by decide +kernel)⟩
theorem cal_X12_gainOf : ck_cal yX12_gainOf cX12_gainOf 4 (some .int) 2 := ⟨ck_inc7 (i := 139) rfl rfl, ck_inc1 (i := 18) rfl rfl, by decide +kernel, by decide +kernel, by decide +kernel⟩
theorem vir_X12_gainOf : Cond.instanceMethod yX12_gainOf ∈ ck_T ∧ Cond.selects yX12_gainOf.cls yX12_gainOf yX12_gainOf ∈ ck_T := ⟨ck_inc7 (i := 138) rfl rfl, ck_inP (i := 75) (q := (yX12_gainOf, 69)) (by decide +kernel)⟩
theorem cal_X12_tries : ck_cal yX12_tries cX12_tries 10 none 2 := ⟨ck_inc8 (i := 30) rfl rfl, ck_inc1 (i := 18) rfl rfl, by decide +kernel, by decide +kernel, by decide +kernel⟩
theorem vir_X12_tries : Cond.instanceMethod yX12_tries ∈ ck_T ∧ Cond.selects yX12_tries.cls yX12_tries yX12_tries ∈ ck_T := ⟨ck_inc8 (i := 29) rfl rfl, ck_inP (i := 93) (q := (yX12_tries, 69)) (by decide +kernel)⟩
theorem cal_X12_isDue : ck_cal yX12_isDue cX12_isDue 3 (some .boolean) 2 := ⟨ck_inc8 (i := 26) rfl rfl, ck_inc1 (i := 18) rfl rfl, by decide +kernel, by decide +kernel, by decide +kernel⟩
theorem vir_X12_isDue : Cond.instanceMethod yX12_isDue ∈ ck_T ∧ Cond.selects yX12_isDue.cls yX12_isDue yX12_isDue ∈ ck_T := ⟨ck_inc8 (i := 25) rfl rfl, ck_inP (i := 92) (q := (yX12_isDue, 69)) (by decide +kernel)⟩
theorem cal_X12_triesAll : ck_cal yX12_triesAll cX12_triesAll 3 none 1 := ⟨ck_inc8 (i := 22) rfl rfl, ck_inc1 (i := 18) rfl rfl, by decide +kernel, by decide +kernel, by decide +kernel⟩
theorem vir_X12_triesAll : Cond.instanceMethod yX12_triesAll ∈ ck_T ∧ Cond.selects yX12_triesAll.cls yX12_triesAll yX12_triesAll ∈ ck_T := ⟨ck_inc8 (i := 21) rfl rfl, ck_inP (i := 91) (q := (yX12_triesAll, 69)) (by decide +kernel)⟩
theorem cal_X12_ends : ck_cal yX12_ends cX12_ends 3 none 1 := ⟨ck_inc8 (i := 43) rfl rfl, ck_inc1 (i := 18) rfl rfl, by decide +kernel, by decide +kernel, by decide +kernel⟩
theorem vir_X12_ends : Cond.instanceMethod yX12_ends ∈ ck_T ∧ Cond.selects yX12_ends.cls yX12_ends yX12_ends ∈ ck_T := ⟨ck_inc8 (i := 42) rfl rfl, ck_inP (i := 95) (q := (yX12_ends, 69)) (by decide +kernel)⟩
theorem cal_X12_passes : ck_cal yX12_passes cX12_passes 2 none 1 := ⟨ck_inc8 (i := 18) rfl rfl, ck_inc1 (i := 18) rfl rfl, by decide +kernel, by decide +kernel, by decide +kernel⟩
theorem vir_X12_passes : Cond.instanceMethod yX12_passes ∈ ck_T ∧ Cond.selects yX12_passes.cls yX12_passes yX12_passes ∈ ck_T := ⟨ck_inc8 (i := 17) rfl rfl, ck_inP (i := 90) (q := (yX12_passes, 69)) (by decide +kernel)⟩
theorem cal_X12_goesOn : ck_cal yX12_goesOn cX12_goesOn 3 none 1 := ⟨ck_inc8 (i := 51) rfl rfl, ck_inc1 (i := 18) rfl rfl, by decide +kernel, by decide +kernel, by decide +kernel⟩
theorem vir_X12_goesOn : Cond.instanceMethod yX12_goesOn ∈ ck_T ∧ Cond.selects yX12_goesOn.cls yX12_goesOn yX12_goesOn ∈ ck_T := ⟨ck_inc8 (i := 50) rfl rfl, ck_inP (i := 96) (q := (yX12_goesOn, 69)) (by decide +kernel)⟩
theorem cal_X12_manyOf : ck_cal yX12_manyOf cX12_manyOf 5 (some .int) 2 := ⟨ck_inc8 (i := 55) rfl rfl, ck_inc1 (i := 18) rfl rfl, by decide +kernel, by decide +kernel, by decide +kernel⟩
theorem vir_X12_manyOf : Cond.instanceMethod yX12_manyOf ∈ ck_T ∧ Cond.selects yX12_manyOf.cls yX12_manyOf yX12_manyOf ∈ ck_T := ⟨ck_inc8 (i := 54) rfl rfl, ck_inP (i := 97) (q := (yX12_manyOf, 69)) (by decide +kernel)⟩
theorem cal_X12_gainAll : ck_cal yX12_gainAll cX12_gainAll 4 (some .int) 1 := ⟨ck_inc8 (i := 59) rfl rfl, ck_inc1 (i := 18) rfl rfl, by decide +kernel, by decide +kernel, by decide +kernel⟩
theorem vir_X12_gainAll : Cond.instanceMethod yX12_gainAll ∈ ck_T ∧ Cond.selects yX12_gainAll.cls yX12_gainAll yX12_gainAll ∈ ck_T := ⟨ck_inc8 (i := 58) rfl rfl, ck_inP (i := 98) (q := (yX12_gainAll, 69)) (by decide +kernel)⟩
theorem cal_X12_suit : ck_cal yX12_suit cX12_suit 3 (some .int) 2 := ⟨ck_inc7 (i := 131) rfl rfl, ck_inc1 (i := 18) rfl rfl, by decide +kernel, by decide +kernel, by decide +kernel⟩
theorem vir_X12_suit : Cond.instanceMethod yX12_suit ∈ ck_T ∧ Cond.selects yX12_suit.cls yX12_suit yX12_suit ∈ ck_T := ⟨ck_inc7 (i := 129) rfl rfl, ck_inc7 (i := 130) rfl rfl⟩
theorem cal_X12_triedBy : ck_cal yX12_triedBy cX12_triedBy 6 (some .int) 2 := ⟨ck_inc7 (i := 151) rfl rfl, ck_inc1 (i := 18) rfl rfl, by decide +kernel, by decide +kernel, by decide +kernel⟩
theorem vir_X12_triedBy : Cond.instanceMethod yX12_triedBy ∈ ck_T ∧ Cond.selects yX12_triedBy.cls yX12_triedBy yX12_triedBy ∈ ck_T := ⟨ck_inc7 (i := 150) rfl rfl, ck_inP (i := 77) (q := (yX12_triedBy, 69)) (by decide +kernel)⟩
theorem cal_X12_judge : ck_cal yX12_judge cX12_judge 3 (some .int) 2 := ⟨ck_inc7 (i := 143) rfl rfl, ck_inc1 (i := 18) rfl rfl, by decide +kernel, by decide +kernel, by decide +kernel⟩
theorem vir_X12_judge : Cond.instanceMethod yX12_judge ∈ ck_T ∧ Cond.selects yX12_judge.cls yX12_judge yX12_judge ∈ ck_T := ⟨ck_inc7 (i := 141) rfl rfl, ck_inc7 (i := 142) rfl rfl⟩
theorem cal_X12_nut : ck_cal yX12_nut cX12_nut 3 (some .int) 2 := ⟨ck_inc7 (i := 159) rfl rfl, ck_inc1 (i := 18) rfl rfl, by decide +kernel, by decide +kernel, by decide +kernel⟩
theorem vir_X12_nut : Cond.instanceMethod yX12_nut ∈ ck_T ∧ Cond.selects yX12_nut.cls yX12_nut yX12_nut ∈ ck_T := ⟨ck_inc7 (i := 157) rfl rfl, ck_inc7 (i := 158) rfl rfl⟩
theorem cal_X12_force : ck_cal yX12_force cX12_force 3 (some .int) 2 := ⟨ck_inc7 (i := 167) rfl rfl, ck_inc1 (i := 18) rfl rfl, by decide +kernel, by decide +kernel, by decide +kernel⟩
theorem vir_X12_force : Cond.instanceMethod yX12_force ∈ ck_T ∧ Cond.selects yX12_force.cls yX12_force yX12_force ∈ ck_T := ⟨ck_inc7 (i := 165) rfl rfl, ck_inc7 (i := 166) rfl rfl⟩
theorem cal_X12_slack : ck_cal yX12_slack cX12_slack 3 (some .int) 2 := ⟨ck_inc7 (i := 209) rfl rfl, ck_inc1 (i := 18) rfl rfl, by decide +kernel, by decide +kernel, by decide +kernel⟩
theorem vir_X12_slack : Cond.instanceMethod yX12_slack ∈ ck_T ∧ Cond.selects yX12_slack.cls yX12_slack yX12_slack ∈ ck_T := ⟨ck_inc7 (i := 207) rfl rfl, ck_inc7 (i := 208) rfl rfl⟩
theorem cal_X12_verdict : ck_cal yX12_verdict cX12_verdict 3 (some .int) 2 := ⟨ck_inc7 (i := 217) rfl rfl, ck_inc1 (i := 18) rfl rfl, by decide +kernel, by decide +kernel, by decide +kernel⟩
theorem vir_X12_verdict : Cond.instanceMethod yX12_verdict ∈ ck_T ∧ Cond.selects yX12_verdict.cls yX12_verdict yX12_verdict ∈ ck_T := ⟨ck_inc7 (i := 215) rfl rfl, ck_inc7 (i := 216) rfl rfl⟩
theorem cal_X12_law : ck_cal yX12_law cX12_law 4 (some .long) 3 := ⟨ck_inc7 (i := 225) rfl rfl, ck_inc1 (i := 18) rfl rfl, by decide +kernel, by decide +kernel, by decide +kernel⟩
theorem vir_X12_law : Cond.instanceMethod yX12_law ∈ ck_T ∧ Cond.selects yX12_law.cls yX12_law yX12_law ∈ ck_T := ⟨ck_inc7 (i := 223) rfl rfl, ck_inc7 (i := 224) rfl rfl⟩
theorem cal_X12_keepNow : ck_cal yX12_keepNow cX12_keepNow 2 none 0 := ⟨ck_inc7 (i := 234) rfl rfl, ck_inc1 (i := 18) rfl rfl, by decide +kernel, by decide +kernel, by decide +kernel⟩
theorem vir_X12_keepNow : Cond.instanceMethod yX12_keepNow ∈ ck_T ∧ Cond.selects yX12_keepNow.cls yX12_keepNow yX12_keepNow ∈ ck_T := ⟨ck_inc7 (i := 233) rfl rfl, ck_inP (i := 88) (q := (yX12_keepNow, 69)) (by decide +kernel)⟩
theorem cal_X12_give : ck_cal yX12_give cX12_give 3 (some .boolean) 2 := ⟨ck_inc7 (i := 230) rfl rfl, ck_inc1 (i := 18) rfl rfl, by decide +kernel, by decide +kernel, by decide +kernel⟩
theorem vir_X12_give : Cond.instanceMethod yX12_give ∈ ck_T ∧ Cond.selects yX12_give.cls yX12_give yX12_give ∈ ck_T := ⟨ck_inc7 (i := 228) rfl rfl, ck_inc7 (i := 229) rfl rfl⟩
theorem cal_X12_stone : ck_cal yX12_stone cX12_stone 3 (some .boolean) 2 := ⟨ck_inc8 (i := 2) rfl rfl, ck_inc1 (i := 18) rfl rfl, by decide +kernel, by decide +kernel, by decide +kernel⟩
theorem vir_X12_stone : Cond.instanceMethod yX12_stone ∈ ck_T ∧ Cond.selects yX12_stone.cls yX12_stone yX12_stone ∈ ck_T := ⟨ck_inc8 (i := 0) rfl rfl, ck_inc8 (i := 1) rfl rfl⟩
theorem cal_X12_put : ck_cal yX12_put cX12_put 3 (some .boolean) 2 := ⟨ck_inc8 (i := 6) rfl rfl, ck_inc1 (i := 18) rfl rfl, by decide +kernel, by decide +kernel, by decide +kernel⟩
theorem vir_X12_put : Cond.instanceMethod yX12_put ∈ ck_T ∧ Cond.selects yX12_put.cls yX12_put yX12_put ∈ ck_T := ⟨ck_inc8 (i := 4) rfl rfl, ck_inc8 (i := 5) rfl rfl⟩
theorem cal_X12_oil : ck_cal yX12_oil cX12_oil 2 (some .int) 1 := ⟨ck_inc8 (i := 10) rfl rfl, ck_inc1 (i := 18) rfl rfl, by decide +kernel, by decide +kernel, by decide +kernel⟩
theorem vir_X12_oil : Cond.instanceMethod yX12_oil ∈ ck_T ∧ Cond.selects yX12_oil.cls yX12_oil yX12_oil ∈ ck_T := ⟨ck_inc8 (i := 8) rfl rfl, ck_inc8 (i := 9) rfl rfl⟩
theorem cal_X12_go : ck_cal yX12_go cX12_go 3 (some .int) 1 := ⟨ck_inc8 (i := 14) rfl rfl, ck_inc1 (i := 18) rfl rfl, by decide +kernel, by decide +kernel, by decide +kernel⟩
theorem vir_X12_go : Cond.instanceMethod yX12_go ∈ ck_T ∧ Cond.selects yX12_go.cls yX12_go yX12_go ∈ ck_T := ⟨ck_inc8 (i := 12) rfl rfl, ck_inc8 (i := 13) rfl rfl⟩
theorem cal_X12_ahead : ck_cal yX12_ahead cX12_ahead 3 (some .int) 2 := ⟨ck_inc8 (i := 47) rfl rfl, ck_inc1 (i := 18) rfl rfl, by decide +kernel, by decide +kernel, by decide +kernel⟩
theorem vir_X12_ahead : Cond.instanceMethod yX12_ahead ∈ ck_T ∧ Cond.selects yX12_ahead.cls yX12_ahead yX12_ahead ∈ ck_T := ⟨ck_inc8 (i := 45) rfl rfl, ck_inc8 (i := 46) rfl rfl⟩
theorem cal_X12_teethAll : ck_cal yX12_teethAll cX12_teethAll 4 (some .int) 1 := ⟨ck_inc8 (i := 63) rfl rfl, ck_inc1 (i := 18) rfl rfl, by decide +kernel, by decide +kernel, by decide +kernel⟩
theorem vir_X12_teethAll : Cond.instanceMethod yX12_teethAll ∈ ck_T ∧ Cond.selects yX12_teethAll.cls yX12_teethAll yX12_teethAll ∈ ck_T := ⟨ck_inc8 (i := 62) rfl rfl, ck_inP (i := 99) (q := (yX12_teethAll, 69)) (by decide +kernel)⟩
theorem cal_X12_power : ck_cal yX12_power cX12_power 4 (some .int) 2 := ⟨ck_inc8 (i := 74) rfl rfl, ck_inc1 (i := 18) rfl rfl, by decide +kernel, by decide +kernel, by decide +kernel⟩
theorem sta_X12_power : Cond.static yX12_power ∈ ck_T := ck_inc8 (i := 73) rfl rfl
theorem cal_X12_layDeal : ck_cal yX12_layDeal cX12_layDeal 4 none 1 := ⟨ck_inc8 (i := 71) rfl rfl, ck_inc1 (i := 18) rfl rfl, by decide +kernel, by decide +kernel, by decide +kernel⟩
theorem vir_X12_layDeal : Cond.instanceMethod yX12_layDeal ∈ ck_T ∧ Cond.selects yX12_layDeal.cls yX12_layDeal yX12_layDeal ∈ ck_T := ⟨ck_inc8 (i := 70) rfl rfl, ck_inP (i := 100) (q := (yX12_layDeal, 69)) (by decide +kernel)⟩
theorem cal_X12_deal : ck_cal yX12_deal cX12_deal 3 (some .int) 2 := ⟨ck_inc8 (i := 67) rfl rfl, ck_inc1 (i := 18) rfl rfl, by decide +kernel, by decide +kernel, by decide +kernel⟩
theorem vir_X12_deal : Cond.instanceMethod yX12_deal ∈ ck_T ∧ Cond.selects yX12_deal.cls yX12_deal yX12_deal ∈ ck_T := ⟨ck_inc8 (i := 65) rfl rfl, ck_inc8 (i := 66) rfl rfl⟩
theorem cal_X12_orders : ck_cal yX12_orders cX12_orders 5 none 2 := ⟨ck_inc8 (i := 82) rfl rfl, ck_inc1 (i := 18) rfl rfl, by decide +kernel, by decide +kernel, by decide +kernel⟩
theorem vir_X12_orders : Cond.instanceMethod yX12_orders ∈ ck_T ∧ Cond.selects yX12_orders.cls yX12_orders yX12_orders ∈ ck_T := ⟨ck_inc8 (i := 81) rfl rfl, ck_inP (i := 101) (q := (yX12_orders, 69)) (by decide +kernel)⟩
theorem cal_X12_order : ck_cal yX12_order cX12_order 3 (some .int) 1 := ⟨ck_inc8 (i := 78) rfl rfl, ck_inc1 (i := 18) rfl rfl, by decide +kernel, by decide +kernel, by decide +kernel⟩
theorem vir_X12_order : Cond.instanceMethod yX12_order ∈ ck_T ∧ Cond.selects yX12_order.cls yX12_order yX12_order ∈ ck_T := ⟨ck_inc8 (i := 76) rfl rfl, ck_inc8 (i := 77) rfl rfl⟩
theorem cal_X12_enough : ck_cal yX12_enough cX12_enough 4 (some .int) 2 := ⟨ck_inc8 (i := 86) rfl rfl, ck_inc1 (i := 18) rfl rfl, by decide +kernel, by decide +kernel, by decide +kernel⟩
theorem vir_X12_enough : Cond.instanceMethod yX12_enough ∈ ck_T ∧ Cond.selects yX12_enough.cls yX12_enough yX12_enough ∈ ck_T := ⟨ck_inc8 (i := 84) rfl rfl, ck_inc8 (i := 85) rfl rfl⟩
theorem cal_X12_bitsOf : ck_cal yX12_bitsOf cX12_bitsOf 3 (some .int) 1 := ⟨ck_inc8 (i := 93) rfl rfl, ck_inc1 (i := 18) rfl rfl, by decide +kernel, by decide +kernel, by decide +kernel⟩
theorem sta_X12_bitsOf : Cond.static yX12_bitsOf ∈ ck_T := ck_inc8 (i := 92) rfl rfl
theorem cal_X12_spoil : ck_cal yX12_spoil cX12_spoil 6 (some .int) 2 := ⟨ck_inc8 (i := 90) rfl rfl, ck_inc1 (i := 18) rfl rfl, by decide +kernel, by decide +kernel, by decide +kernel⟩
theorem vir_X12_spoil : Cond.instanceMethod yX12_spoil ∈ ck_T ∧ Cond.selects yX12_spoil.cls yX12_spoil yX12_spoil ∈ ck_T := ⟨ck_inc8 (i := 88) rfl rfl, ck_inc8 (i := 89) rfl rfl⟩
theorem cal_X12_laySettle : ck_cal yX12_laySettle cX12_laySettle 7 none 1 := ⟨ck_inc8 (i := 105) rfl rfl, ck_inc1 (i := 18) rfl rfl, by decide +kernel, by decide +kernel, by decide +kernel⟩
theorem vir_X12_laySettle : Cond.instanceMethod yX12_laySettle ∈ ck_T ∧ Cond.selects yX12_laySettle.cls yX12_laySettle yX12_laySettle ∈ ck_T := ⟨ck_inc8 (i := 104) rfl rfl, ck_inP (i := 103) (q := (yX12_laySettle, 69)) (by decide +kernel)⟩
theorem cal_X12_isRest : ck_cal yX12_isRest cX12_isRest 2 (some .boolean) 1 := ⟨ck_inc8 (i := 113) rfl rfl, ck_inc1 (i := 18) rfl rfl, by decide +kernel, by decide +kernel, by decide +kernel⟩
theorem vir_X12_isRest : Cond.instanceMethod yX12_isRest ∈ ck_T ∧ Cond.selects yX12_isRest.cls yX12_isRest yX12_isRest ∈ ck_T := ⟨ck_inc8 (i := 112) rfl rfl, ck_inP (i := 105) (q := (yX12_isRest, 69)) (by decide +kernel)⟩
theorem cal_X12_restOf : ck_cal yX12_restOf cX12_restOf 4 (some .int) 1 := ⟨ck_inc8 (i := 109) rfl rfl, ck_inc1 (i := 18) rfl rfl, by decide +kernel, by decide +kernel, by decide +kernel⟩
theorem vir_X12_restOf : Cond.instanceMethod yX12_restOf ∈ ck_T ∧ Cond.selects yX12_restOf.cls yX12_restOf yX12_restOf ∈ ck_T := ⟨ck_inc8 (i := 108) rfl rfl, ck_inP (i := 104) (q := (yX12_restOf, 69)) (by decide +kernel)⟩
theorem cal_X12_isOpenSuit : ck_cal yX12_isOpenSuit cX12_isOpenSuit 2 (some .boolean) 1 := ⟨ck_inc8 (i := 101) rfl rfl, ck_inc1 (i := 18) rfl rfl, by decide +kernel, by decide +kernel, by decide +kernel⟩
theorem vir_X12_isOpenSuit : Cond.instanceMethod yX12_isOpenSuit ∈ ck_T ∧ Cond.selects yX12_isOpenSuit.cls yX12_isOpenSuit yX12_isOpenSuit ∈ ck_T := ⟨ck_inc8 (i := 100) rfl rfl, ck_inP (i := 102) (q := (yX12_isOpenSuit, 69)) (by decide +kernel)⟩
theorem cal_X12_rests : ck_cal yX12_rests cX12_rests 2 (some .int) 1 := ⟨ck_inc8 (i := 97) rfl rfl, ck_inc1 (i := 18) rfl rfl, by decide +kernel, by decide +kernel, by decide +kernel⟩
theorem vir_X12_rests : Cond.instanceMethod yX12_rests ∈ ck_T ∧ Cond.selects yX12_rests.cls yX12_rests yX12_rests ∈ ck_T := ⟨ck_inc8 (i := 95) rfl rfl, ck_inc8 (i := 96) rfl rfl⟩
theorem cal_X12_rest : ck_cal yX12_rest cX12_rest 3 (some .int) 2 := ⟨ck_inc8 (i := 117) rfl rfl, ck_inc1 (i := 18) rfl rfl, by decide +kernel, by decide +kernel, by decide +kernel⟩
theorem vir_X12_rest : Cond.instanceMethod yX12_rest ∈ ck_T ∧ Cond.selects yX12_rest.cls yX12_rest yX12_rest ∈ ck_T := ⟨ck_inc8 (i := 115) rfl rfl, ck_inc8 (i := 116) rfl rfl⟩
theorem cal_X12_twins : ck_cal yX12_twins cX12_twins 4 (some .int) 0 := ⟨ck_inc8 (i := 121) rfl rfl, ck_inc1 (i := 18) rfl rfl, by decide +kernel, by decide +kernel, by decide +kernel⟩
theorem vir_X12_twins : Cond.instanceMethod yX12_twins ∈ ck_T ∧ Cond.selects yX12_twins.cls yX12_twins yX12_twins ∈ ck_T := ⟨ck_inc8 (i := 119) rfl rfl, ck_inc8 (i := 120) rfl rfl⟩
theorem cal_X12_common : ck_cal yX12_common cX12_common 5 (some .int) 2 := ⟨ck_inc8 (i := 128) rfl rfl, ck_inc1 (i := 18) rfl rfl, by decide +kernel, by decide +kernel, by decide +kernel⟩
theorem sta_X12_common : Cond.static yX12_common ∈ ck_T := ck_inc8 (i := 127) rfl rfl
theorem cal_X12_likely : ck_cal yX12_likely cX12_likely 5 (some .int) 2 := ⟨ck_inc8 (i := 125) rfl rfl, ck_inc1 (i := 18) rfl rfl, by decide +kernel, by decide +kernel, by decide +kernel⟩
theorem vir_X12_likely : Cond.instanceMethod yX12_likely ∈ ck_T ∧ Cond.selects yX12_likely.cls yX12_likely yX12_likely ∈ ck_T := ⟨ck_inc8 (i := 123) rfl rfl, ck_inc8 (i := 124) rfl rfl⟩
theorem cal_X12_crown : ck_cal yX12_crown cX12_crown 3 (some .int) 0 := ⟨ck_inc8 (i := 132) rfl rfl, ck_inc1 (i := 18) rfl rfl, by decide +kernel, by decide +kernel, by decide +kernel⟩
theorem vir_X12_crown : Cond.instanceMethod yX12_crown ∈ ck_T ∧ Cond.selects yX12_crown.cls yX12_crown yX12_crown ∈ ck_T := ⟨ck_inc8 (i := 130) rfl rfl, ck_inc8 (i := 131) rfl rfl⟩
theorem cal_X12_nextTooth : ck_cal yX12_nextTooth cX12_nextTooth 2 (some .int) 0 := ⟨ck_inc8 (i := 136) rfl rfl, ck_inc1 (i := 18) rfl rfl, by decide +kernel, by decide +kernel, by decide +kernel⟩
theorem vir_X12_nextTooth : Cond.instanceMethod yX12_nextTooth ∈ ck_T ∧ Cond.selects yX12_nextTooth.cls yX12_nextTooth yX12_nextTooth ∈ ck_T := ⟨ck_inc8 (i := 134) rfl rfl, ck_inc8 (i := 135) rfl rfl⟩
theorem cal_X12_wholeBy : ck_cal yX12_wholeBy cX12_wholeBy 4 (some .int) 1 := ⟨ck_inc8 (i := 140) rfl rfl, ck_inc1 (i := 18) rfl rfl, by decide +kernel, by decide +kernel, by decide +kernel⟩
theorem vir_X12_wholeBy : Cond.instanceMethod yX12_wholeBy ∈ ck_T ∧ Cond.selects yX12_wholeBy.cls yX12_wholeBy yX12_wholeBy ∈ ck_T := ⟨ck_inc8 (i := 138) rfl rfl, ck_inc8 (i := 139) rfl rfl⟩
theorem cal_X12_docket : ck_cal yX12_docket cX12_docket 4 (some .int) 1 := ⟨ck_inc8 (i := 144) rfl rfl, ck_inc1 (i := 18) rfl rfl, by decide +kernel, by decide +kernel, by decide +kernel⟩
theorem vir_X12_docket : Cond.instanceMethod yX12_docket ∈ ck_T ∧ Cond.selects yX12_docket.cls yX12_docket yX12_docket ∈ ck_T := ⟨ck_inc8 (i := 142) rfl rfl, ck_inc8 (i := 143) rfl rfl⟩
theorem cal_X12_note : ck_cal yX12_note cX12_note 4 (some .int) 3 := ⟨ck_inc8 (i := 148) rfl rfl, ck_inc1 (i := 18) rfl rfl, by decide +kernel, by decide +kernel, by decide +kernel⟩
theorem vir_X12_note : Cond.instanceMethod yX12_note ∈ ck_T ∧ Cond.selects yX12_note.cls yX12_note yX12_note ∈ ck_T := ⟨ck_inc8 (i := 146) rfl rfl, ck_inc8 (i := 147) rfl rfl⟩
theorem cal_X12_out : ck_cal yX12_out cX12_out 2 (some .int) 1 := ⟨ck_inc8 (i := 152) rfl rfl, ck_inc1 (i := 18) rfl rfl, by decide +kernel, by decide +kernel, by decide +kernel⟩
theorem vir_X12_out : Cond.instanceMethod yX12_out ∈ ck_T ∧ Cond.selects yX12_out.cls yX12_out yX12_out ∈ ck_T := ⟨ck_inc8 (i := 150) rfl rfl, ck_inc8 (i := 151) rfl rfl⟩
theorem cal_X12_known : ck_cal yX12_known cX12_known 2 (some .boolean) 1 := ⟨ck_inc8 (i := 156) rfl rfl, ck_inc1 (i := 18) rfl rfl, by decide +kernel, by decide +kernel, by decide +kernel⟩
theorem vir_X12_known : Cond.instanceMethod yX12_known ∈ ck_T ∧ Cond.selects yX12_known.cls yX12_known yX12_known ∈ ck_T := ⟨ck_inc8 (i := 154) rfl rfl, ck_inc8 (i := 155) rfl rfl⟩
theorem cal_X12_knownMany : ck_cal yX12_knownMany cX12_knownMany 1 (some .int) 0 := ⟨ck_inc8 (i := 164) rfl rfl, ck_inc1 (i := 18) rfl rfl, by decide +kernel, by decide +kernel, by decide +kernel⟩
theorem vir_X12_knownMany : Cond.instanceMethod yX12_knownMany ∈ ck_T ∧ Cond.selects yX12_knownMany.cls yX12_knownMany yX12_knownMany ∈ ck_T := ⟨ck_inc8 (i := 163) rfl rfl, ck_inP (i := 106) (q := (yX12_knownMany, 69)) (by decide +kernel)⟩
theorem cal_X12_fitsLever : ck_cal yX12_fitsLever cX12_fitsLever 3 (some .boolean) 1 := ⟨ck_inc8 (i := 168) rfl rfl, ck_inc1 (i := 18) rfl rfl, by decide +kernel, by decide +kernel, by decide +kernel⟩
theorem vir_X12_fitsLever : Cond.instanceMethod yX12_fitsLever ∈ ck_T ∧ Cond.selects yX12_fitsLever.cls yX12_fitsLever yX12_fitsLever ∈ ck_T := ⟨ck_inc8 (i := 167) rfl rfl, ck_inP (i := 107) (q := (yX12_fitsLever, 69)) (by decide +kernel)⟩
theorem cal_X12_levers : ck_cal yX12_levers cX12_levers 4 (some .int) 0 := ⟨ck_inc8 (i := 160) rfl rfl, ck_inc1 (i := 18) rfl rfl, by decide +kernel, by decide +kernel, by decide +kernel⟩
theorem vir_X12_levers : Cond.instanceMethod yX12_levers ∈ ck_T ∧ Cond.selects yX12_levers.cls yX12_levers yX12_levers ∈ ck_T := ⟨ck_inc8 (i := 158) rfl rfl, ck_inc8 (i := 159) rfl rfl⟩
theorem cal_X12_chance : ck_cal yX12_chance cX12_chance 6 (some .int) 3 := ⟨ck_inc8 (i := 172) rfl rfl, ck_inc1 (i := 18) rfl rfl, by decide +kernel, by decide +kernel, by decide +kernel⟩
theorem vir_X12_chance : Cond.instanceMethod yX12_chance ∈ ck_T ∧ Cond.selects yX12_chance.cls yX12_chance yX12_chance ∈ ck_T := ⟨ck_inc8 (i := 170) rfl rfl, ck_inc8 (i := 171) rfl rfl⟩
theorem cal_X12_tried : ck_cal yX12_tried cX12_tried 5 (some .int) 3 := ⟨ck_inc8 (i := 176) rfl rfl, ck_inc1 (i := 18) rfl rfl, by decide +kernel, by decide +kernel, by decide +kernel⟩
theorem vir_X12_tried : Cond.instanceMethod yX12_tried ∈ ck_T ∧ Cond.selects yX12_tried.cls yX12_tried yX12_tried ∈ ck_T := ⟨ck_inc8 (i := 174) rfl rfl, ck_inc8 (i := 175) rfl rfl⟩
theorem cal_X12_undo : ck_cal yX12_undo cX12_undo 1 (some .int) 0 := ⟨ck_inc8 (i := 180) rfl rfl, ck_inc1 (i := 18) rfl rfl, by decide +kernel, by decide +kernel, by decide +kernel⟩
theorem vir_X12_undo : Cond.instanceMethod yX12_undo ∈ ck_T ∧ Cond.selects yX12_undo.cls yX12_undo yX12_undo ∈ ck_T := ⟨ck_inc8 (i := 178) rfl rfl, ck_inc8 (i := 179) rfl rfl⟩
theorem cal_X12_keep : ck_cal yX12_keep cX12_keep 1 (some .int) 0 := ⟨ck_inc8 (i := 184) rfl rfl, ck_inc1 (i := 18) rfl rfl, by decide +kernel, by decide +kernel, by decide +kernel⟩
theorem vir_X12_keep : Cond.instanceMethod yX12_keep ∈ ck_T ∧ Cond.selects yX12_keep.cls yX12_keep yX12_keep ∈ ck_T := ⟨ck_inc8 (i := 182) rfl rfl, ck_inc8 (i := 183) rfl rfl⟩
theorem cal_X12_back : ck_cal yX12_back cX12_back 1 (some .int) 0 := ⟨ck_inc8 (i := 188) rfl rfl, ck_inc1 (i := 18) rfl rfl, by decide +kernel, by decide +kernel, by decide +kernel⟩
theorem vir_X12_back : Cond.instanceMethod yX12_back ∈ ck_T ∧ Cond.selects yX12_back.cls yX12_back yX12_back ∈ ck_T := ⟨ck_inc8 (i := 186) rfl rfl, ck_inc8 (i := 187) rfl rfl⟩
theorem cal_X12_mouseAll : ck_cal yX12_mouseAll cX12_mouseAll 3 (some .int) 0 := ⟨ck_inc8 (i := 196) rfl rfl, ck_inc1 (i := 18) rfl rfl, by decide +kernel, by decide +kernel, by decide +kernel⟩
theorem vir_X12_mouseAll : Cond.instanceMethod yX12_mouseAll ∈ ck_T ∧ Cond.selects yX12_mouseAll.cls yX12_mouseAll yX12_mouseAll ∈ ck_T := ⟨ck_inc8 (i := 195) rfl rfl, ck_inP (i := 108) (q := (yX12_mouseAll, 69)) (by decide +kernel)⟩
theorem cal_X12_count : ck_cal yX12_count cX12_count 2 (some .int) 1 := ⟨ck_inc8 (i := 192) rfl rfl, ck_inc1 (i := 18) rfl rfl, by decide +kernel, by decide +kernel, by decide +kernel⟩
theorem vir_X12_count : Cond.instanceMethod yX12_count ∈ ck_T ∧ Cond.selects yX12_count.cls yX12_count yX12_count ∈ ck_T := ⟨ck_inc8 (i := 190) rfl rfl, ck_inc8 (i := 191) rfl rfl⟩
theorem cal_X0_init : ck_cal yX0_init cX0_init 4 none 3 := ⟨ck_inc3 (i := 3) rfl rfl, ck_inc1 (i := 16) rfl rfl, by decide +kernel, by decide +kernel, by decide +kernel⟩
theorem ins_X0_init : Cond.instanceMethod yX0_init ∈ ck_T := ck_inc3 (i := 2) rfl rfl
theorem cal_X0_think : ck_cal yX0_think cX0_think 1 none 0 := ⟨ck_inc4 (i := 183) rfl rfl, ck_inc1 (i := 16) rfl rfl, by decide +kernel, by decide +kernel, by decide +kernel⟩
theorem vir_X0_think : Cond.instanceMethod yX0_think ∈ ck_T ∧ Cond.selects yX0_think.cls yX0_think yX0_think ∈ ck_T := ⟨ck_inc4 (i := 181) rfl rfl, ck_inc4 (i := 182) rfl rfl⟩
theorem cal_X0_thinkFromTextWith : ck_cal yX0_thinkFromTextWith cX0_thinkFromTextWith 2 none 1 := ⟨ck_inc5 (i := 113) rfl rfl, ck_inc1 (i := 16) rfl rfl, by decide +kernel, by decide +kernel, by decide +kernel⟩
theorem vir_X0_thinkFromTextWith : Cond.instanceMethod yX0_thinkFromTextWith ∈ ck_T ∧ Cond.selects yX0_thinkFromTextWith.cls yX0_thinkFromTextWith yX0_thinkFromTextWith ∈ ck_T := ⟨ck_inc5 (i := 111) rfl rfl, ck_inc5 (i := 112) rfl rfl⟩
theorem cal_X0_gainMore : ck_cal yX0_gainMore cX0_gainMore 1 (some .int) 0 := ⟨ck_inc4 (i := 196) rfl rfl, ck_inc1 (i := 16) rfl rfl, by decide +kernel, by decide +kernel, by decide +kernel⟩
theorem vir_X0_gainMore : Cond.instanceMethod yX0_gainMore ∈ ck_T ∧ Cond.selects yX0_gainMore.cls yX0_gainMore yX0_gainMore ∈ ck_T := ⟨ck_inc4 (i := 194) rfl rfl, ck_inc4 (i := 195) rfl rfl⟩
theorem cal_X0_seekDeal : ck_cal yX0_seekDeal cX0_seekDeal 6 none 1 := ⟨ck_inc4 (i := 216) rfl rfl, ck_inc1 (i := 16) rfl rfl, by decide +kernel, by decide +kernel, by decide +kernel⟩
theorem vir_X0_seekDeal : Cond.instanceMethod yX0_seekDeal ∈ ck_T ∧ Cond.selects yX0_seekDeal.cls yX0_seekDeal yX0_seekDeal ∈ ck_T := ⟨ck_inc4 (i := 214) rfl rfl, ck_inc4 (i := 215) rfl rfl⟩
theorem cal_X0_nextDeal : ck_cal yX0_nextDeal cX0_nextDeal 4 (some .boolean) 2 := ⟨ck_inc4 (i := 228) rfl rfl, ck_inc1 (i := 16) rfl rfl, by decide +kernel, by decide +kernel, by decide +kernel⟩
theorem vir_X0_nextDeal : Cond.instanceMethod yX0_nextDeal ∈ ck_T ∧ Cond.selects yX0_nextDeal.cls yX0_nextDeal yX0_nextDeal ∈ ck_T := ⟨ck_inc4 (i := 227) rfl rfl, ck_inP (i := 38) (q := (yX0_nextDeal, 8)) (by decide +kernel)⟩
theorem cal_X0_keepIfBetter : ck_cal yX0_keepIfBetter cX0_keepIfBetter 2 none 0 := ⟨ck_inc4 (i := 222) rfl rfl, ck_inc1 (i := 16) rfl rfl, by decide +kernel, by decide +kernel, by decide +kernel⟩
theorem vir_X0_keepIfBetter : Cond.instanceMethod yX0_keepIfBetter ∈ ck_T ∧ Cond.selects yX0_keepIfBetter.cls yX0_keepIfBetter yX0_keepIfBetter ∈ ck_T := ⟨ck_inc4 (i := 221) rfl rfl, ck_inP (i := 37) (q := (yX0_keepIfBetter, 8)) (by decide +kernel)⟩
theorem cal_X0_seekOrder : ck_cal yX0_seekOrder cX0_seekOrder 4 none 0 := ⟨ck_inc4 (i := 236) rfl rfl, ck_inc1 (i := 16) rfl rfl, by decide +kernel, by decide +kernel, by decide +kernel⟩
theorem vir_X0_seekOrder : Cond.instanceMethod yX0_seekOrder ∈ ck_T ∧ Cond.selects yX0_seekOrder.cls yX0_seekOrder yX0_seekOrder ∈ ck_T := ⟨ck_inc4 (i := 234) rfl rfl, ck_inc4 (i := 235) rfl rfl⟩
theorem cal_X0_nextOrder : ck_cal yX0_nextOrder cX0_nextOrder 5 (some .boolean) 0 := ⟨ck_inc5 (i := 1) rfl rfl, ck_inc1 (i := 16) rfl rfl, by decide +kernel, by decide +kernel, by decide +kernel⟩
theorem vir_X0_nextOrder : Cond.instanceMethod yX0_nextOrder ∈ ck_T ∧ Cond.selects yX0_nextOrder.cls yX0_nextOrder yX0_nextOrder ∈ ck_T := ⟨ck_inc5 (i := 0) rfl rfl, ck_inP (i := 39) (q := (yX0_nextOrder, 8)) (by decide +kernel)⟩
theorem cal_X0_swap : ck_cal yX0_swap cX0_swap 4 none 2 := ⟨ck_inc5 (i := 5) rfl rfl, ck_inc1 (i := 16) rfl rfl, by decide +kernel, by decide +kernel, by decide +kernel⟩
theorem vir_X0_swap : Cond.instanceMethod yX0_swap ∈ ck_T ∧ Cond.selects yX0_swap.cls yX0_swap yX0_swap ∈ ck_T := ⟨ck_inc5 (i := 4) rfl rfl, ck_inP (i := 40) (q := (yX0_swap, 8)) (by decide +kernel)⟩
theorem cal_X0_fewestStones : ck_cal yX0_fewestStones cX0_fewestStones 6 (some .int) 2 := ⟨ck_inc5 (i := 17) rfl rfl, ck_inc1 (i := 16) rfl rfl, by decide +kernel, by decide +kernel, by decide +kernel⟩
theorem vir_X0_fewestStones : Cond.instanceMethod yX0_fewestStones ∈ ck_T ∧ Cond.selects yX0_fewestStones.cls yX0_fewestStones yX0_fewestStones ∈ ck_T := ⟨ck_inc5 (i := 15) rfl rfl, ck_inc5 (i := 16) rfl rfl⟩
theorem cal_X0_bitsOfSuits : ck_cal yX0_bitsOfSuits cX0_bitsOfSuits 5 (some .int) 2 := ⟨ck_inc5 (i := 28) rfl rfl, ck_inc1 (i := 16) rfl rfl, by decide +kernel, by decide +kernel, by decide +kernel⟩
theorem vir_X0_bitsOfSuits : Cond.instanceMethod yX0_bitsOfSuits ∈ ck_T ∧ Cond.selects yX0_bitsOfSuits.cls yX0_bitsOfSuits yX0_bitsOfSuits ∈ ck_T := ⟨ck_inc5 (i := 27) rfl rfl, ck_inP (i := 41) (q := (yX0_bitsOfSuits, 8)) (by decide +kernel)⟩
theorem cal_X1_init : ck_cal yX1_init cX1_init 1 none 0 := ⟨ck_inc1 (i := 167) rfl rfl, ck_inc1 (i := 9) rfl rfl, by decide +kernel, by decide +kernel, by decide +kernel⟩
theorem ins_X1_init : Cond.instanceMethod yX1_init ∈ ck_T := ck_inc1 (i := 166) rfl rfl
theorem cal_X1_beginAsTold : ck_cal yX1_beginAsTold cX1_beginAsTold 3 none 1 := ⟨ck_inc3 (i := 36) rfl rfl, ck_inc1 (i := 9) rfl rfl, by decide +kernel, by decide +kernel, by decide +kernel⟩
theorem vir_X1_beginAsTold : Cond.instanceMethod yX1_beginAsTold ∈ ck_T ∧ Cond.selects yX1_beginAsTold.cls yX1_beginAsTold yX1_beginAsTold ∈ ck_T := ⟨ck_inc3 (i := 34) rfl rfl, ck_inc3 (i := 35) rfl rfl⟩
theorem cal_X1_hasStone : ck_cal yX1_hasStone cX1_hasStone 2 (some .boolean) 1 := ⟨ck_inc4 (i := 124) rfl rfl, ck_inc1 (i := 9) rfl rfl, by decide +kernel, by decide +kernel, by decide +kernel⟩
theorem vir_X1_hasStone : Cond.instanceMethod yX1_hasStone ∈ ck_T ∧ Cond.selects yX1_hasStone.cls yX1_hasStone yX1_hasStone ∈ ck_T := ⟨ck_inc4 (i := 122) rfl rfl, ck_inc4 (i := 123) rfl rfl⟩
theorem cal_X1_becomeLike : ck_cal yX1_becomeLike cX1_becomeLike 2 none 1 := ⟨ck_inc4 (i := 188) rfl rfl, ck_inc1 (i := 9) rfl rfl, by decide +kernel, by decide +kernel, by decide +kernel⟩
theorem vir_X1_becomeLike : Cond.instanceMethod yX1_becomeLike ∈ ck_T ∧ Cond.selects yX1_becomeLike.cls yX1_becomeLike yX1_becomeLike ∈ ck_T := ⟨ck_inc4 (i := 186) rfl rfl, ck_inc4 (i := 187) rfl rfl⟩
theorem cal_X2_init : ck_cal yX2_init cX2_init 1 none 0 := ⟨ck_inc2 (i := 15) rfl rfl, ck_inc1 (i := 11) rfl rfl, by decide +kernel, by decide +kernel, by decide +kernel⟩
theorem ins_X2_init : Cond.instanceMethod yX2_init ∈ ck_T := ck_inc2 (i := 14) rfl rfl
theorem cal_X2_clear : ck_cal yX2_clear cX2_clear 1 none 0 := ⟨ck_inc4 (i := 8) rfl rfl, ck_inc1 (i := 11) rfl rfl, by decide +kernel, by decide +kernel, by decide +kernel⟩
theorem vir_X2_clear : Cond.instanceMethod yX2_clear ∈ ck_T ∧ Cond.selects yX2_clear.cls yX2_clear yX2_clear ∈ ck_T := ⟨ck_inc4 (i := 6) rfl rfl, ck_inc4 (i := 7) rfl rfl⟩
theorem cal_X2_add : ck_cal yX2_add cX2_add 4 none 3 := ⟨ck_inc4 (i := 111) rfl rfl, ck_inc1 (i := 11) rfl rfl, by decide +kernel, by decide +kernel, by decide +kernel⟩
theorem vir_X2_add : Cond.instanceMethod yX2_add ∈ ck_T ∧ Cond.selects yX2_add.cls yX2_add yX2_add ∈ ck_T := ⟨ck_inc4 (i := 109) rfl rfl, ck_inc4 (i := 110) rfl rfl⟩
theorem cal_X2_forgetFirst : ck_cal yX2_forgetFirst cX2_forgetFirst 1 none 0 := ⟨ck_inc4 (i := 115) rfl rfl, ck_inc1 (i := 11) rfl rfl, by decide +kernel, by decide +kernel, by decide +kernel⟩
theorem vir_X2_forgetFirst : Cond.instanceMethod yX2_forgetFirst ∈ ck_T ∧ Cond.selects yX2_forgetFirst.cls yX2_forgetFirst yX2_forgetFirst ∈ ck_T := ⟨ck_inc4 (i := 114) rfl rfl, ck_inP (i := 30) (q := (yX2_forgetFirst, 4)) (by decide +kernel)⟩
theorem cal_X2_takeBackLatest : ck_cal yX2_takeBackLatest cX2_takeBackLatest 3 none 1 := ⟨ck_inc5 (i := 135) rfl rfl, ck_inc1 (i := 11) rfl rfl, by decide +kernel, by decide +kernel, by decide +kernel⟩
theorem vir_X2_takeBackLatest : Cond.instanceMethod yX2_takeBackLatest ∈ ck_T ∧ Cond.selects yX2_takeBackLatest.cls yX2_takeBackLatest yX2_takeBackLatest ∈ ck_T := ⟨ck_inc5 (i := 133) rfl rfl, ck_inc5 (i := 134) rfl rfl⟩
theorem cal_X3_init : ck_cal yX3_init cX3_init 2 none 1 := ⟨ck_inc1 (i := 132) rfl rfl, ck_inc1 (i := 8) rfl rfl, by decide +kernel, by decide +kernel, by decide +kernel⟩
theorem ins_X3_init : Cond.instanceMethod yX3_init ∈ ck_T := ck_inc1 (i := 131) rfl rfl
theorem cal_X3_readInto : ck_cal yX3_readInto cX3_readInto 5 (some .int) 2 := ⟨ck_inc3 (i := 200) rfl rfl, ck_inc1 (i := 8) rfl rfl, by decide +kernel, by decide +kernel, by decide +kernel⟩
theorem vir_X3_readInto : Cond.instanceMethod yX3_readInto ∈ ck_T ∧ Cond.selects yX3_readInto.cls yX3_readInto yX3_readInto ∈ ck_T := ⟨ck_inc3 (i := 198) rfl rfl, ck_inc3 (i := 199) rfl rfl⟩
theorem cal_X3_goesOn : ck_cal yX3_goesOn cX3_goesOn 1 (some .boolean) 0 := ⟨ck_inc3 (i := 204) rfl rfl, ck_inc1 (i := 8) rfl rfl, by decide +kernel, by decide +kernel, by decide +kernel⟩
theorem vir_X3_goesOn : Cond.instanceMethod yX3_goesOn ∈ ck_T ∧ Cond.selects yX3_goesOn.cls yX3_goesOn yX3_goesOn ∈ ck_T := ⟨ck_inc3 (i := 203) rfl rfl, ck_inP (i := 16) (q := (yX3_goesOn, 6)) (by decide +kernel)⟩
theorem cal_X3_takeSide : ck_cal yX3_takeSide cX3_takeSide 4 (some .int) 1 := ⟨ck_inc3 (i := 211) rfl rfl, ck_inc1 (i := 8) rfl rfl, by decide +kernel, by decide +kernel, by decide +kernel⟩
theorem vir_X3_takeSide : Cond.instanceMethod yX3_takeSide ∈ ck_T ∧ Cond.selects yX3_takeSide.cls yX3_takeSide yX3_takeSide ∈ ck_T := ⟨ck_inc3 (i := 210) rfl rfl, ck_inP (i := 17) (q := (yX3_takeSide, 6)) (by decide +kernel)⟩
theorem cal_X3_takeOpen : ck_cal yX3_takeOpen cX3_takeOpen 1 (some .int) 0 := ⟨ck_inc3 (i := 215) rfl rfl, ck_inc1 (i := 8) rfl rfl, by decide +kernel, by decide +kernel, by decide +kernel⟩
theorem vir_X3_takeOpen : Cond.instanceMethod yX3_takeOpen ∈ ck_T ∧ Cond.selects yX3_takeOpen.cls yX3_takeOpen yX3_takeOpen ∈ ck_T := ⟨ck_inc3 (i := 214) rfl rfl, ck_inP (i := 18) (q := (yX3_takeOpen, 6)) (by decide +kernel)⟩
theorem cal_X3_dropOpen : ck_cal yX3_dropOpen cX3_dropOpen 1 none 0 := ⟨ck_inc3 (i := 235) rfl rfl, ck_inc1 (i := 8) rfl rfl, by decide +kernel, by decide +kernel, by decide +kernel⟩
theorem vir_X3_dropOpen : Cond.instanceMethod yX3_dropOpen ∈ ck_T ∧ Cond.selects yX3_dropOpen.cls yX3_dropOpen yX3_dropOpen ∈ ck_T := ⟨ck_inc3 (i := 234) rfl rfl, ck_inP (i := 22) (q := (yX3_dropOpen, 6)) (by decide +kernel)⟩
theorem cal_X3_takeSign : ck_cal yX3_takeSign cX3_takeSign 5 (some .int) 1 := ⟨ck_inc3 (i := 227) rfl rfl, ck_inc1 (i := 8) rfl rfl, by decide +kernel, by decide +kernel, by decide +kernel⟩
theorem vir_X3_takeSign : Cond.instanceMethod yX3_takeSign ∈ ck_T ∧ Cond.selects yX3_takeSign.cls yX3_takeSign yX3_takeSign ∈ ck_T := ⟨ck_inc3 (i := 226) rfl rfl, ck_inP (i := 20) (q := (yX3_takeSign, 6)) (by decide +kernel)⟩
theorem cal_X3_hold : ck_cal yX3_hold cX3_hold 2 none 1 := ⟨ck_inc3 (i := 219) rfl rfl, ck_inc1 (i := 8) rfl rfl, by decide +kernel, by decide +kernel, by decide +kernel⟩
theorem vir_X3_hold : Cond.instanceMethod yX3_hold ∈ ck_T ∧ Cond.selects yX3_hold.cls yX3_hold yX3_hold ∈ ck_T := ⟨ck_inc3 (i := 218) rfl rfl, ck_inP (i := 19) (q := (yX3_hold, 6)) (by decide +kernel)⟩
theorem cal_X3_release : ck_cal yX3_release cX3_release 3 none 2 := ⟨ck_inc3 (i := 231) rfl rfl, ck_inc1 (i := 8) rfl rfl, by decide +kernel, by decide +kernel, by decide +kernel⟩
theorem vir_X3_release : Cond.instanceMethod yX3_release ∈ ck_T ∧ Cond.selects yX3_release.cls yX3_release yX3_release ∈ ck_T := ⟨ck_inc3 (i := 230) rfl rfl, ck_inP (i := 21) (q := (yX3_release, 6)) (by decide +kernel)⟩
theorem cal_X3_rankOf : ck_cal yX3_rankOf cX3_rankOf 1 (some .int) 1 := ⟨ck_inc3 (i := 207) rfl rfl, ck_inc1 (i := 8) rfl rfl, by decide +kernel, by decide +kernel, by decide +kernel⟩
theorem sta_X3_rankOf : Cond.static yX3_rankOf ∈ ck_T := ck_inc3 (i := 206) rfl rfl
theorem cal_X4_init : ck_cal yX4_init cX4_init 1 none 0 := ⟨ck_inc2 (i := 59) rfl rfl, ck_inc1 (i := 14) rfl rfl, by decide +kernel, by decide +kernel, by decide +kernel⟩
theorem ins_X4_init : Cond.instanceMethod yX4_init ∈ ck_T := ck_inc2 (i := 58) rfl rfl
theorem cal_X4_clear : ck_cal yX4_clear cX4_clear 2 none 0 := ⟨ck_inc3 (i := 109) rfl rfl, ck_inc1 (i := 14) rfl rfl, by decide +kernel, by decide +kernel, by decide +kernel⟩
theorem vir_X4_clear : Cond.instanceMethod yX4_clear ∈ ck_T ∧ Cond.selects yX4_clear.cls yX4_clear yX4_clear ∈ ck_T := ⟨ck_inc3 (i := 107) rfl rfl, ck_inc3 (i := 108) rfl rfl⟩
theorem cal_X4_add : ck_cal yX4_add cX4_add 3 none 2 := ⟨ck_inc3 (i := 223) rfl rfl, ck_inc1 (i := 14) rfl rfl, by decide +kernel, by decide +kernel, by decide +kernel⟩
theorem vir_X4_add : Cond.instanceMethod yX4_add ∈ ck_T ∧ Cond.selects yX4_add.cls yX4_add yX4_add ∈ ck_T := ⟨ck_inc3 (i := 221) rfl rfl, ck_inc3 (i := 222) rfl rfl⟩
theorem cal_X4_isTold : ck_cal yX4_isTold cX4_isTold 2 (some .boolean) 1 := ⟨ck_inc3 (i := 196) rfl rfl, ck_inc1 (i := 14) rfl rfl, by decide +kernel, by decide +kernel, by decide +kernel⟩
theorem vir_X4_isTold : Cond.instanceMethod yX4_isTold ∈ ck_T ∧ Cond.selects yX4_isTold.cls yX4_isTold yX4_isTold ∈ ck_T := ⟨ck_inc3 (i := 194) rfl rfl, ck_inc3 (i := 195) rfl rfl⟩
theorem cal_X4_worked : ck_cal yX4_worked cX4_worked 8 (some .long) 2 := ⟨ck_inc4 (i := 65) rfl rfl, ck_inc1 (i := 14) rfl rfl, by decide +kernel, by decide +kernel, by decide +kernel⟩
theorem vir_X4_worked : Cond.instanceMethod yX4_worked ∈ ck_T ∧ Cond.selects yX4_worked.cls yX4_worked yX4_worked ∈ ck_T := ⟨ck_inc4 (i := 63) rfl rfl, ck_inc4 (i := 64) rfl rfl⟩
theorem cal_X4_sidesOf : ck_cal yX4_sidesOf cX4_sidesOf 1 (some .int) 1 := ⟨ck_inc4 (i := 68) rfl rfl, ck_inc1 (i := 14) rfl rfl, by decide +kernel, by decide +kernel, by decide +kernel⟩
theorem sta_X4_sidesOf : Cond.static yX4_sidesOf ∈ ck_T := ck_inc4 (i := 67) rfl rfl
theorem cal_X4_joined : ck_cal yX4_joined cX4_joined 5 (some .long) 3 := ⟨ck_inc4 (i := 72) rfl rfl, ck_inc1 (i := 14) rfl rfl, by decide +kernel, by decide +kernel, by decide +kernel⟩
theorem sta_X4_joined : Cond.static yX4_joined ∈ ck_T := ck_inc4 (i := 71) rfl rfl
theorem cal_X4_product : ck_cal yX4_product cX4_product 8 (some .long) 2 := ⟨ck_inc4 (i := 75) rfl rfl, ck_inc1 (i := 14) rfl rfl, by decide +kernel, by decide +kernel, by decide +kernel⟩
theorem sta_X4_product : Cond.static yX4_product ∈ ck_T := ck_inc4 (i := 74) rfl rfl
theorem cal_X5_init : ck_cal yX5_init cX5_init 2 none 1 := ⟨ck_inc2 (i := 41) rfl rfl, ck_inc1 (i := 13) rfl rfl, by decide +kernel, by decide +kernel, by decide +kernel⟩
theorem ins_X5_init : Cond.instanceMethod yX5_init ∈ ck_T := ck_inc2 (i := 40) rfl rfl
theorem cal_X5_find : ck_cal yX5_find cX5_find 3 (some .int) 1 := ⟨ck_inc3 (i := 155) rfl rfl, ck_inc1 (i := 13) rfl rfl, by decide +kernel, by decide +kernel, by decide +kernel⟩
theorem vir_X5_find : Cond.instanceMethod yX5_find ∈ ck_T ∧ Cond.selects yX5_find.cls yX5_find yX5_find ∈ ck_T := ⟨ck_inc3 (i := 153) rfl rfl, ck_inc3 (i := 154) rfl rfl⟩
theorem cal_X5_isFull : ck_cal yX5_isFull cX5_isFull 1 (some .boolean) 0 := ⟨ck_inc3 (i := 142) rfl rfl, ck_inc1 (i := 13) rfl rfl, by decide +kernel, by decide +kernel, by decide +kernel⟩
theorem vir_X5_isFull : Cond.instanceMethod yX5_isFull ∈ ck_T ∧ Cond.selects yX5_isFull.cls yX5_isFull yX5_isFull ∈ ck_T := ⟨ck_inc3 (i := 140) rfl rfl, ck_inc3 (i := 141) rfl rfl⟩
theorem cal_X5_add : ck_cal yX5_add cX5_add 2 none 1 := ⟨ck_inc3 (i := 163) rfl rfl, ck_inc1 (i := 13) rfl rfl, by decide +kernel, by decide +kernel, by decide +kernel⟩
theorem vir_X5_add : Cond.instanceMethod yX5_add ∈ ck_T ∧ Cond.selects yX5_add.cls yX5_add yX5_add ∈ ck_T := ⟨ck_inc3 (i := 161) rfl rfl, ck_inc3 (i := 162) rfl rfl⟩
theorem cal_X6_init : ck_cal yX6_init cX6_init 1 none 0 := ⟨ck_inc1 (i := 224) rfl rfl, ck_inc1 (i := 10) rfl rfl, by decide +kernel, by decide +kernel, by decide +kernel⟩
theorem ins_X6_init : Cond.instanceMethod yX6_init ∈ ck_T := ck_inc1 (i := 223) rfl rfl
theorem cal_X6_clear : ck_cal yX6_clear cX6_clear 1 none 0 := ⟨ck_inc4 (i := 4) rfl rfl, ck_inc1 (i := 10) rfl rfl, by decide +kernel, by decide +kernel, by decide +kernel⟩
theorem vir_X6_clear : Cond.instanceMethod yX6_clear ∈ ck_T ∧ Cond.selects yX6_clear.cls yX6_clear yX6_clear ∈ ck_T := ⟨ck_inc4 (i := 2) rfl rfl, ck_inc4 (i := 3) rfl rfl⟩
theorem cal_X6_add : ck_cal yX6_add cX6_add 5 (some .int) 4 := ⟨ck_inc5 (i := 89) rfl rfl, ck_inc1 (i := 10) rfl rfl, by decide +kernel, by decide +kernel, by decide +kernel⟩
theorem vir_X6_add : Cond.instanceMethod yX6_add ∈ ck_T ∧ Cond.selects yX6_add.cls yX6_add yX6_add ∈ ck_T := ⟨ck_inc5 (i := 87) rfl rfl, ck_inc5 (i := 88) rfl rfl⟩
theorem cal_X6_countConsidered : ck_cal yX6_countConsidered cX6_countConsidered 1 (some .int) 0 := ⟨ck_inc5 (i := 109) rfl rfl, ck_inc1 (i := 10) rfl rfl, by decide +kernel, by decide +kernel, by decide +kernel⟩
theorem vir_X6_countConsidered : Cond.instanceMethod yX6_countConsidered ∈ ck_T ∧ Cond.selects yX6_countConsidered.cls yX6_countConsidered yX6_countConsidered ∈ ck_T := ⟨ck_inc5 (i := 107) rfl rfl, ck_inc5 (i := 108) rfl rfl⟩
theorem cal_X6_findStruck : ck_cal yX6_findStruck cX6_findStruck 2 none 0 := ⟨ck_inc5 (i := 105) rfl rfl, ck_inc1 (i := 10) rfl rfl, by decide +kernel, by decide +kernel, by decide +kernel⟩
theorem vir_X6_findStruck : Cond.instanceMethod yX6_findStruck ∈ ck_T ∧ Cond.selects yX6_findStruck.cls yX6_findStruck yX6_findStruck ∈ ck_T := ⟨ck_inc5 (i := 103) rfl rfl, ck_inc5 (i := 104) rfl rfl⟩
theorem cal_X6_agreeWith : ck_cal yX6_agreeWith cX6_agreeWith 4 (some .boolean) 1 := ⟨ck_inc5 (i := 118) rfl rfl, ck_inc1 (i := 10) rfl rfl, by decide +kernel, by decide +kernel, by decide +kernel⟩
theorem vir_X6_agreeWith : Cond.instanceMethod yX6_agreeWith ∈ ck_T ∧ Cond.selects yX6_agreeWith.cls yX6_agreeWith yX6_agreeWith ∈ ck_T := ⟨ck_inc5 (i := 116) rfl rfl, ck_inc5 (i := 117) rfl rfl⟩
theorem cal_X7_init : ck_cal yX7_init cX7_init 1 none 0 := ⟨ck_inc2 (i := 35) rfl rfl, ck_inc1 (i := 12) rfl rfl, by decide +kernel, by decide +kernel, by decide +kernel⟩
theorem ins_X7_init : Cond.instanceMethod yX7_init ∈ ck_T := ck_inc2 (i := 34) rfl rfl
theorem cal_X7_clear : ck_cal yX7_clear cX7_clear 1 none 0 := ⟨ck_inc3 (i := 105) rfl rfl, ck_inc1 (i := 12) rfl rfl, by decide +kernel, by decide +kernel, by decide +kernel⟩
theorem vir_X7_clear : Cond.instanceMethod yX7_clear ∈ ck_T ∧ Cond.selects yX7_clear.cls yX7_clear yX7_clear ∈ ck_T := ⟨ck_inc3 (i := 103) rfl rfl, ck_inc3 (i := 104) rfl rfl⟩
theorem cal_X8_init : ck_cal yX8_init cX8_init 6 none 1 := ⟨ck_inc1 (i := 44) rfl rfl, ck_inc1 (i := 3) rfl rfl, by decide +kernel, by decide +kernel, by decide +kernel⟩
theorem ins_X8_init : Cond.instanceMethod yX8_init ∈ ck_T := ck_inc1 (i := 43) rfl rfl
theorem cal_X8_begin : ck_cal yX8_begin cX8_begin 2 none 1 := ⟨ck_inc3 (i := 113) rfl rfl, ck_inc1 (i := 3) rfl rfl, by decide +kernel, by decide +kernel, by decide +kernel⟩
theorem vir_X8_begin : Cond.instanceMethod yX8_begin ∈ ck_T ∧ Cond.selects yX8_begin.cls yX8_begin yX8_begin ∈ ck_T := ⟨ck_inc3 (i := 111) rfl rfl, ck_inc3 (i := 112) rfl rfl⟩
theorem cal_X8_next : ck_cal yX8_next cX8_next 1 none 0 := ⟨ck_inc3 (i := 117) rfl rfl, ck_inc1 (i := 3) rfl rfl, by decide +kernel, by decide +kernel, by decide +kernel⟩
theorem vir_X8_next : Cond.instanceMethod yX8_next ∈ ck_T ∧ Cond.selects yX8_next.cls yX8_next yX8_next ∈ ck_T := ⟨ck_inc3 (i := 115) rfl rfl, ck_inc3 (i := 116) rfl rfl⟩
theorem cal_X8_readWord : ck_cal yX8_readWord cX8_readWord 2 none 0 := ⟨ck_inc3 (i := 121) rfl rfl, ck_inc1 (i := 3) rfl rfl, by decide +kernel, by decide +kernel, by decide +kernel⟩
theorem vir_X8_readWord : Cond.instanceMethod yX8_readWord ∈ ck_T ∧ Cond.selects yX8_readWord.cls yX8_readWord yX8_readWord ∈ ck_T := ⟨ck_inc3 (i := 120) rfl rfl, ck_inP (i := 1) (q := (yX8_readWord, 8)) (by decide +kernel)⟩
theorem cal_X8_readNumber : ck_cal yX8_readNumber cX8_readNumber 1 none 0 := ⟨ck_inc3 (i := 125) rfl rfl, ck_inc1 (i := 3) rfl rfl, by decide +kernel, by decide +kernel, by decide +kernel⟩
theorem vir_X8_readNumber : Cond.instanceMethod yX8_readNumber ∈ ck_T ∧ Cond.selects yX8_readNumber.cls yX8_readNumber yX8_readNumber ∈ ck_T := ⟨ck_inc3 (i := 124) rfl rfl, ck_inP (i := 2) (q := (yX8_readNumber, 8)) (by decide +kernel)⟩
theorem cal_X8_readSign : ck_cal yX8_readSign cX8_readSign 3 none 1 := ⟨ck_inc3 (i := 130) rfl rfl, ck_inc1 (i := 3) rfl rfl, by decide +kernel, by decide +kernel, by decide +kernel⟩
theorem vir_X8_readSign : Cond.instanceMethod yX8_readSign ∈ ck_T ∧ Cond.selects yX8_readSign.cls yX8_readSign yX8_readSign ∈ ck_T := ⟨ck_inc3 (i := 129) rfl rfl, ck_inP (i := 3) (q := (yX8_readSign, 8)) (by decide +kernel)⟩
theorem cal_X9_init : ck_cal yX9_init cX9_init 2 none 1 := ⟨ck_inc1 (i := 38) rfl rfl, ck_inc1 (i := 2) rfl rfl, by decide +kernel, by decide +kernel, by decide +kernel⟩
theorem ins_X9_init : Cond.instanceMethod yX9_init ∈ ck_T := ck_inc1 (i := 37) rfl rfl
theorem cal_X9_place : ck_cal yX9_place cX9_place 1 (some .int) 0 := ⟨ck_inc4 (i := 0) rfl rfl, ck_inc1 (i := 2) rfl rfl, by decide +kernel, by decide +kernel, by decide +kernel⟩
theorem vir_X9_place : Cond.instanceMethod yX9_place ∈ ck_T ∧ Cond.selects yX9_place.cls yX9_place yX9_place ∈ ck_T := ⟨ck_inc3 (i := 238) rfl rfl, ck_inc3 (i := 239) rfl rfl⟩
theorem cal_X9_readText : ck_cal yX9_readText cX9_readText 4 (some .int) 2 := ⟨ck_inc3 (i := 101) rfl rfl, ck_inc1 (i := 2) rfl rfl, by decide +kernel, by decide +kernel, by decide +kernel⟩
theorem vir_X9_readText : Cond.instanceMethod yX9_readText ∈ ck_T ∧ Cond.selects yX9_readText.cls yX9_readText yX9_readText ∈ ck_T := ⟨ck_inc3 (i := 99) rfl rfl, ck_inc3 (i := 100) rfl rfl⟩
theorem cal_X9_readLine : ck_cal yX9_readLine cX9_readLine 2 none 1 := ⟨ck_inc3 (i := 134) rfl rfl, ck_inc1 (i := 2) rfl rfl, by decide +kernel, by decide +kernel, by decide +kernel⟩
theorem vir_X9_readLine : Cond.instanceMethod yX9_readLine ∈ ck_T ∧ Cond.selects yX9_readLine.cls yX9_readLine yX9_readLine ∈ ck_T := ⟨ck_inc3 (i := 133) rfl rfl, ck_inP (i := 4) (q := (yX9_readLine, 3)) (by decide +kernel)⟩
theorem cal_X9_readJudge : ck_cal yX9_readJudge cX9_readJudge 6 none 1 := ⟨ck_inc3 (i := 138) rfl rfl, ck_inc1 (i := 2) rfl rfl, by decide +kernel, by decide +kernel, by decide +kernel⟩
theorem vir_X9_readJudge : Cond.instanceMethod yX9_readJudge ∈ ck_T ∧ Cond.selects yX9_readJudge.cls yX9_readJudge yX9_readJudge ∈ ck_T := ⟨ck_inc3 (i := 137) rfl rfl, ck_inP (i := 5) (q := (yX9_readJudge, 3)) (by decide +kernel)⟩
theorem cal_X9_readNut : ck_cal yX9_readNut cX9_readNut 7 none 1 := ⟨ck_inc3 (i := 167) rfl rfl, ck_inc1 (i := 2) rfl rfl, by decide +kernel, by decide +kernel, by decide +kernel⟩
theorem vir_X9_readNut : Cond.instanceMethod yX9_readNut ∈ ck_T ∧ Cond.selects yX9_readNut.cls yX9_readNut yX9_readNut ∈ ck_T := ⟨ck_inc3 (i := 166) rfl rfl, ck_inP (i := 9) (q := (yX9_readNut, 3)) (by decide +kernel)⟩
theorem cal_X9_readSuit : ck_cal yX9_readSuit cX9_readSuit 7 none 1 := ⟨ck_inc3 (i := 171) rfl rfl, ck_inc1 (i := 2) rfl rfl, by decide +kernel, by decide +kernel, by decide +kernel⟩
theorem vir_X9_readSuit : Cond.instanceMethod yX9_readSuit ∈ ck_T ∧ Cond.selects yX9_readSuit.cls yX9_readSuit yX9_readSuit ∈ ck_T := ⟨ck_inc3 (i := 170) rfl rfl, ck_inP (i := 10) (q := (yX9_readSuit, 3)) (by decide +kernel)⟩
theorem cal_X9_readLever : ck_cal yX9_readLever cX9_readLever 2 none 1 := ⟨ck_inc3 (i := 179) rfl rfl, ck_inc1 (i := 2) rfl rfl, by decide +kernel, by decide +kernel, by decide +kernel⟩
theorem vir_X9_readLever : Cond.instanceMethod yX9_readLever ∈ ck_T ∧ Cond.selects yX9_readLever.cls yX9_readLever yX9_readLever ∈ ck_T := ⟨ck_inc3 (i := 178) rfl rfl, ck_inP (i := 12) (q := (yX9_readLever, 3)) (by decide +kernel)⟩
theorem cal_X9_readVacation : ck_cal yX9_readVacation cX9_readVacation 2 none 1 := ⟨ck_inc3 (i := 183) rfl rfl, ck_inc1 (i := 2) rfl rfl, by decide +kernel, by decide +kernel, by decide +kernel⟩
theorem vir_X9_readVacation : Cond.instanceMethod yX9_readVacation ∈ ck_T ∧ Cond.selects yX9_readVacation.cls yX9_readVacation yX9_readVacation ∈ ck_T := ⟨ck_inc3 (i := 182) rfl rfl, ck_inP (i := 13) (q := (yX9_readVacation, 3)) (by decide +kernel)⟩
theorem cal_X9_readSeed : ck_cal yX9_readSeed cX9_readSeed 2 none 1 := ⟨ck_inc3 (i := 187) rfl rfl, ck_inc1 (i := 2) rfl rfl, by decide +kernel, by decide +kernel, by decide +kernel⟩
theorem vir_X9_readSeed : Cond.instanceMethod yX9_readSeed ∈ ck_T ∧ Cond.selects yX9_readSeed.cls yX9_readSeed yX9_readSeed ∈ ck_T := ⟨ck_inc3 (i := 186) rfl rfl, ck_inP (i := 14) (q := (yX9_readSeed, 3)) (by decide +kernel)⟩
theorem cal_X9_readLaw : ck_cal yX9_readLaw cX9_readLaw 3 none 1 := ⟨ck_inc3 (i := 192) rfl rfl, ck_inc1 (i := 2) rfl rfl, by decide +kernel, by decide +kernel, by decide +kernel⟩
theorem vir_X9_readLaw : Cond.instanceMethod yX9_readLaw ∈ ck_T ∧ Cond.selects yX9_readLaw.cls yX9_readLaw yX9_readLaw ∈ ck_T := ⟨ck_inc3 (i := 191) rfl rfl, ck_inP (i := 15) (q := (yX9_readLaw, 3)) (by decide +kernel)⟩
theorem cal_X9_takeWord : ck_cal yX9_takeWord cX9_takeWord 2 none 1 := ⟨ck_inc3 (i := 146) rfl rfl, ck_inc1 (i := 2) rfl rfl, by decide +kernel, by decide +kernel, by decide +kernel⟩
theorem vir_X9_takeWord : Cond.instanceMethod yX9_takeWord ∈ ck_T ∧ Cond.selects yX9_takeWord.cls yX9_takeWord yX9_takeWord ∈ ck_T := ⟨ck_inc3 (i := 145) rfl rfl, ck_inP (i := 6) (q := (yX9_takeWord, 3)) (by decide +kernel)⟩
theorem cal_X9_takeNewName : ck_cal yX9_takeNewName cX9_takeNewName 3 (some .int) 1 := ⟨ck_inc3 (i := 151) rfl rfl, ck_inc1 (i := 2) rfl rfl, by decide +kernel, by decide +kernel, by decide +kernel⟩
theorem vir_X9_takeNewName : Cond.instanceMethod yX9_takeNewName ∈ ck_T ∧ Cond.selects yX9_takeNewName.cls yX9_takeNewName yX9_takeNewName ∈ ck_T := ⟨ck_inc3 (i := 150) rfl rfl, ck_inP (i := 7) (q := (yX9_takeNewName, 3)) (by decide +kernel)⟩
theorem cal_X9_takeToldName : ck_cal yX9_takeToldName cX9_takeToldName 3 (some .int) 1 := ⟨ck_inc3 (i := 175) rfl rfl, ck_inc1 (i := 2) rfl rfl, by decide +kernel, by decide +kernel, by decide +kernel⟩
theorem vir_X9_takeToldName : Cond.instanceMethod yX9_takeToldName ∈ ck_T ∧ Cond.selects yX9_takeToldName.cls yX9_takeToldName yX9_takeToldName ∈ ck_T := ⟨ck_inc3 (i := 174) rfl rfl, ck_inP (i := 11) (q := (yX9_takeToldName, 3)) (by decide +kernel)⟩
theorem cal_X9_takeNumber : ck_cal yX9_takeNumber cX9_takeNumber 4 (some .int) 2 := ⟨ck_inc3 (i := 159) rfl rfl, ck_inc1 (i := 2) rfl rfl, by decide +kernel, by decide +kernel, by decide +kernel⟩
theorem vir_X9_takeNumber : Cond.instanceMethod yX9_takeNumber ∈ ck_T ∧ Cond.selects yX9_takeNumber.cls yX9_takeNumber yX9_takeNumber ∈ ck_T := ⟨ck_inc3 (i := 158) rfl rfl, ck_inP (i := 8) (q := (yX9_takeNumber, 3)) (by decide +kernel)⟩
theorem cal_X10_init : ck_cal yX10_init cX10_init 2 none 1 := ⟨ck_inc2 (i := 188) rfl rfl, ck_inc1 (i := 15) rfl rfl, by decide +kernel, by decide +kernel, by decide +kernel⟩
theorem ins_X10_init : Cond.instanceMethod yX10_init ∈ ck_T := ck_inc2 (i := 187) rfl rfl
theorem cal_X10_asTheyAre : ck_cal yX10_asTheyAre cX10_asTheyAre 1 none 0 := ⟨ck_inc4 (i := 53) rfl rfl, ck_inc1 (i := 15) rfl rfl, by decide +kernel, by decide +kernel, by decide +kernel⟩
theorem vir_X10_asTheyAre : Cond.instanceMethod yX10_asTheyAre ∈ ck_T ∧ Cond.selects yX10_asTheyAre.cls yX10_asTheyAre yX10_asTheyAre ∈ ck_T := ⟨ck_inc4 (i := 51) rfl rfl, ck_inc4 (i := 52) rfl rfl⟩
theorem cal_X10_clearLoad : ck_cal yX10_clearLoad cX10_clearLoad 2 none 0 := ⟨ck_inc4 (i := 57) rfl rfl, ck_inc1 (i := 15) rfl rfl, by decide +kernel, by decide +kernel, by decide +kernel⟩
theorem vir_X10_clearLoad : Cond.instanceMethod yX10_clearLoad ∈ ck_T ∧ Cond.selects yX10_clearLoad.cls yX10_clearLoad yX10_clearLoad ∈ ck_T := ⟨ck_inc4 (i := 55) rfl rfl, ck_inc4 (i := 56) rfl rfl⟩
theorem cal_X10_pass : ck_cal yX10_pass cX10_pass 6 none 2 := ⟨ck_inc4 (i := 140) rfl rfl, ck_inc1 (i := 15) rfl rfl, by decide +kernel, by decide +kernel, by decide +kernel⟩
theorem vir_X10_pass : Cond.instanceMethod yX10_pass ∈ ck_T ∧ Cond.selects yX10_pass.cls yX10_pass yX10_pass ∈ ck_T := ⟨ck_inc4 (i := 138) rfl rfl, ck_inc4 (i := 139) rfl rfl⟩
theorem cal_X10_isOpen : ck_cal yX10_isOpen cX10_isOpen 3 (some .boolean) 2 := ⟨ck_inc4 (i := 148) rfl rfl, ck_inc1 (i := 15) rfl rfl, by decide +kernel, by decide +kernel, by decide +kernel⟩
theorem vir_X10_isOpen : Cond.instanceMethod yX10_isOpen ∈ ck_T ∧ Cond.selects yX10_isOpen.cls yX10_isOpen yX10_isOpen ∈ ck_T := ⟨ck_inc4 (i := 146) rfl rfl, ck_inc4 (i := 147) rfl rfl⟩
theorem cal_X10_nextDayWithSuits : ck_cal yX10_nextDayWithSuits cX10_nextDayWithSuits 6 (some .int) 2 := ⟨ck_inc4 (i := 144) rfl rfl, ck_inc1 (i := 15) rfl rfl, by decide +kernel, by decide +kernel, by decide +kernel⟩
theorem vir_X10_nextDayWithSuits : Cond.instanceMethod yX10_nextDayWithSuits ∈ ck_T ∧ Cond.selects yX10_nextDayWithSuits.cls yX10_nextDayWithSuits yX10_nextDayWithSuits ∈ ck_T := ⟨ck_inc4 (i := 143) rfl rfl, ck_inP (i := 31) (q := (yX10_nextDayWithSuits, 12)) (by decide +kernel)⟩
theorem cal_X10_moveTo : ck_cal yX10_moveTo cX10_moveTo 3 none 2 := ⟨ck_inc4 (i := 152) rfl rfl, ck_inc1 (i := 15) rfl rfl, by decide +kernel, by decide +kernel, by decide +kernel⟩
theorem vir_X10_moveTo : Cond.instanceMethod yX10_moveTo ∈ ck_T ∧ Cond.selects yX10_moveTo.cls yX10_moveTo yX10_moveTo ∈ ck_T := ⟨ck_inc4 (i := 151) rfl rfl, ck_inP (i := 32) (q := (yX10_moveTo, 12)) (by decide +kernel)⟩
theorem cal_X10_tryOne : ck_cal yX10_tryOne cX10_tryOne 6 none 2 := ⟨ck_inc4 (i := 157) rfl rfl, ck_inc1 (i := 15) rfl rfl, by decide +kernel, by decide +kernel, by decide +kernel⟩
theorem vir_X10_tryOne : Cond.instanceMethod yX10_tryOne ∈ ck_T ∧ Cond.selects yX10_tryOne.cls yX10_tryOne yX10_tryOne ∈ ck_T := ⟨ck_inc4 (i := 155) rfl rfl, ck_inc4 (i := 156) rfl rfl⟩
theorem cal_X10_hardnessOf : ck_cal yX10_hardnessOf cX10_hardnessOf 4 (some .int) 2 := ⟨ck_inc4 (i := 161) rfl rfl, ck_inc1 (i := 15) rfl rfl, by decide +kernel, by decide +kernel, by decide +kernel⟩
theorem vir_X10_hardnessOf : Cond.instanceMethod yX10_hardnessOf ∈ ck_T ∧ Cond.selects yX10_hardnessOf.cls yX10_hardnessOf yX10_hardnessOf ∈ ck_T := ⟨ck_inc4 (i := 159) rfl rfl, ck_inc4 (i := 160) rfl rfl⟩
theorem cal_X10_drawn : ck_cal yX10_drawn cX10_drawn 1 (some .int) 0 := ⟨ck_inc4 (i := 166) rfl rfl, ck_inc1 (i := 15) rfl rfl, by decide +kernel, by decide +kernel, by decide +kernel⟩
theorem vir_X10_drawn : Cond.instanceMethod yX10_drawn ∈ ck_T ∧ Cond.selects yX10_drawn.cls yX10_drawn yX10_drawn ∈ ck_T := ⟨ck_inc4 (i := 165) rfl rfl, ck_inP (i := 33) (q := (yX10_drawn, 12)) (by decide +kernel)⟩
theorem cal_X10_measured : ck_cal yX10_measured cX10_measured 8 (some .int) 4 := ⟨ck_inc4 (i := 61) rfl rfl, ck_inc1 (i := 15) rfl rfl, by decide +kernel, by decide +kernel, by decide +kernel⟩
theorem vir_X10_measured : Cond.instanceMethod yX10_measured ∈ ck_T ∧ Cond.selects yX10_measured.cls yX10_measured yX10_measured ∈ ck_T := ⟨ck_inc4 (i := 59) rfl rfl, ck_inc4 (i := 60) rfl rfl⟩
theorem cal_X10_wear : ck_cal yX10_wear cX10_wear 5 none 2 := ⟨ck_inc4 (i := 175) rfl rfl, ck_inc1 (i := 15) rfl rfl, by decide +kernel, by decide +kernel, by decide +kernel⟩
theorem vir_X10_wear : Cond.instanceMethod yX10_wear ∈ ck_T ∧ Cond.selects yX10_wear.cls yX10_wear yX10_wear ∈ ck_T := ⟨ck_inc4 (i := 174) rfl rfl, ck_inP (i := 34) (q := (yX10_wear, 12)) (by decide +kernel)⟩
theorem cal_X10_within : ck_cal yX10_within cX10_within 4 (some .int) 3 := ⟨ck_inc4 (i := 81) rfl rfl, ck_inc1 (i := 15) rfl rfl, by decide +kernel, by decide +kernel, by decide +kernel⟩
theorem sta_X10_within : Cond.static yX10_within ∈ ck_T := ck_inc4 (i := 80) rfl rfl
theorem cal_X10_gainOf : ck_cal yX10_gainOf cX10_gainOf 5 (some .int) 2 := ⟨ck_inc4 (i := 204) rfl rfl, ck_inc1 (i := 15) rfl rfl, by decide +kernel, by decide +kernel, by decide +kernel⟩
theorem vir_X10_gainOf : Cond.instanceMethod yX10_gainOf ∈ ck_T ∧ Cond.selects yX10_gainOf.cls yX10_gainOf yX10_gainOf ∈ ck_T := ⟨ck_inc4 (i := 202) rfl rfl, ck_inc4 (i := 203) rfl rfl⟩
theorem cal_X10_gained : ck_cal yX10_gained cX10_gained 4 (some .int) 1 := ⟨ck_inc4 (i := 200) rfl rfl, ck_inc1 (i := 15) rfl rfl, by decide +kernel, by decide +kernel, by decide +kernel⟩
theorem vir_X10_gained : Cond.instanceMethod yX10_gained ∈ ck_T ∧ Cond.selects yX10_gained.cls yX10_gained yX10_gained ∈ ck_T := ⟨ck_inc4 (i := 198) rfl rfl, ck_inc4 (i := 199) rfl rfl⟩
theorem cal_J6_bitCount_0f7a4 : ck_cal yJ6_bitCount_0f7a4 cJ6_bitCount_0f7a4 1 (some .int) 1 := ⟨ck_inc5 (i := 21) rfl rfl, ck_inc1 (i := 25) rfl rfl, by decide +kernel, by decide +kernel, by decide +kernel⟩
theorem sta_J6_bitCount_0f7a4 : Cond.static yJ6_bitCount_0f7a4 ∈ ck_T := ck_inc5 (i := 20) rfl rfl
theorem cal_J0_coder_7d493 : ck_cal yJ0_coder_7d493 cJ0_coder_7d493 1 (some .byte) 0 := ⟨ck_inc1 (i := 54) rfl rfl, ck_inc1 (i := 4) rfl rfl, by decide +kernel, by decide +kernel, by decide +kernel⟩
theorem vir_J0_coder_7d493 : Cond.instanceMethod yJ0_coder_7d493 ∈ ck_T ∧ Cond.selects yJ0_coder_7d493.cls yJ0_coder_7d493 yJ0_coder_7d493 ∈ ck_T := ⟨ck_inc1 (i := 52) rfl rfl, ck_inc1 (i := 53) rfl rfl⟩
theorem cal_J0_length_8abf5 : ck_cal yJ0_length_8abf5 cJ0_length_8abf5 1 (some .int) 0 := ⟨ck_inc1 (i := 50) rfl rfl, ck_inc1 (i := 4) rfl rfl, by decide +kernel, by decide +kernel, by decide +kernel⟩
theorem vir_J0_length_8abf5 : Cond.instanceMethod yJ0_length_8abf5 ∈ ck_T ∧ Cond.selects yJ0_length_8abf5.cls yJ0_length_8abf5 yJ0_length_8abf5 ∈ ck_T := ⟨ck_inc1 (i := 48) rfl rfl, ck_inc1 (i := 49) rfl rfl⟩
theorem cal_J0_isLatin1_aae02 : ck_cal yJ0_isLatin1_aae02 cJ0_isLatin1_aae02 1 (some .boolean) 0 := ⟨ck_inc1 (i := 64) rfl rfl, ck_inc1 (i := 4) rfl rfl, by decide +kernel, by decide +kernel, by decide +kernel⟩
theorem vir_J0_isLatin1_aae02 : Cond.instanceMethod yJ0_isLatin1_aae02 ∈ ck_T ∧ Cond.selects yJ0_isLatin1_aae02.cls yJ0_isLatin1_aae02 yJ0_isLatin1_aae02 ∈ ck_T := ⟨ck_inc1 (i := 62) rfl rfl, ck_inc1 (i := 63) rfl rfl⟩
theorem cal_J0_checkIndex_df160 : ck_cal yJ0_checkIndex_df160 cJ0_checkIndex_df160 2 none 2 := ⟨ck_inc1 (i := 70) rfl rfl, ck_inc1 (i := 4) rfl rfl, by decide +kernel, by decide +kernel, by decide +kernel⟩
theorem sta_J0_checkIndex_df160 : Cond.static yJ0_checkIndex_df160 ∈ ck_T := ck_inc1 (i := 69) rfl rfl
theorem cal_J0_charAt_5068e : ck_cal yJ0_charAt_5068e cJ0_charAt_5068e 2 (some .char) 1 := ⟨ck_inc1 (i := 60) rfl rfl, ck_inc1 (i := 4) rfl rfl, by decide +kernel, by decide +kernel, by decide +kernel⟩
theorem vir_J0_charAt_5068e : Cond.instanceMethod yJ0_charAt_5068e ∈ ck_T ∧ Cond.selects yJ0_charAt_5068e.cls yJ0_charAt_5068e yJ0_charAt_5068e ∈ ck_T := ⟨ck_inc1 (i := 58) rfl rfl, ck_inc1 (i := 59) rfl rfl⟩
theorem cal_J1_charAt_3b067 : ck_cal yJ1_charAt_3b067 cJ1_charAt_3b067 2 (some .char) 2 := ⟨ck_inc1 (i := 67) rfl rfl, ck_inc1 (i := 5) rfl rfl, by decide +kernel, by decide +kernel, by decide +kernel⟩
theorem sta_J1_charAt_3b067 : Cond.static yJ1_charAt_3b067 ∈ ck_T := ck_inc1 (i := 66) rfl rfl
theorem cal_J3_checkIndex_8e157 : ck_cal yJ3_checkIndex_8e157 cJ3_checkIndex_8e157 3 (some .int) 3 := ⟨ck_inc1 (i := 75) rfl rfl, ck_inc1 (i := 6) rfl rfl, by decide +kernel, by decide +kernel, by decide +kernel⟩
theorem sta_J3_checkIndex_8e157 : Cond.static yJ3_checkIndex_8e157 ∈ ck_T := ck_inc1 (i := 74) rfl rfl
theorem ml_L_17 : Cond.methodLink RL 17 yX11_init ∈ ck_T := ck_inc1 (i := 28) rfl rfl
theorem ml_X11_3 : Cond.methodLink RX11 3 objectInit ∈ ck_T := ck_inc1 (i := 31) rfl rfl
theorem ml_X11_17 : Cond.methodLink RX11 17 yX9_init ∈ ck_T := ck_inc1 (i := 36) rfl rfl
theorem ml_X9_3 : Cond.methodLink RX9 3 objectInit ∈ ck_T := ck_inc1 (i := 39) rfl rfl
theorem ml_X9_11 : Cond.methodLink RX9 11 yX8_init ∈ ck_T := ck_inc1 (i := 42) rfl rfl
theorem ml_X8_3 : Cond.methodLink RX8 3 objectInit ∈ ck_T := ck_inc1 (i := 45) rfl rfl
theorem ml_X8_21 : Cond.methodLink RX8 21 yJ0_length_8abf5 ∈ ck_T := ck_inc1 (i := 47) rfl rfl
theorem ml_J0_335 : Cond.methodLink RJ0 335 yJ0_coder_7d493 ∈ ck_T := ck_inc1 (i := 51) rfl rfl
theorem ml_X8_27 : Cond.methodLink RX8 27 yJ0_charAt_5068e ∈ ck_T := ck_inc1 (i := 57) rfl rfl
theorem ml_J0_492 : Cond.methodLink RJ0 492 yJ0_isLatin1_aae02 ∈ ck_T := ck_inc1 (i := 61) rfl rfl
theorem ml_J0_495 : Cond.methodLink RJ0 495 yJ1_charAt_3b067 ∈ ck_T := ck_inc1 (i := 65) rfl rfl
theorem ml_J1_9 : Cond.methodLink RJ1 9 yJ0_checkIndex_df160 ∈ ck_T := ck_inc1 (i := 68) rfl rfl
theorem ml_J0_1059 : Cond.methodLink RJ0 1059 yJ3_checkIndex_8e157 ∈ ck_T := ck_inc1 (i := 73) rfl rfl
theorem ml_J0_498 : Cond.methodLink RJ0 498 yJ2_charAt_3b067 ∈ ck_T := ck_inc1 (i := 76) rfl rfl
theorem ml_X9_22 : Cond.methodLink RX9 22 yX3_init ∈ ck_T := ck_inc1 (i := 130) rfl rfl
theorem ml_X3_3 : Cond.methodLink RX3 3 objectInit ∈ ck_T := ck_inc1 (i := 133) rfl rfl
theorem ml_X11_26 : Cond.methodLinkNest RX11 26 yX1_init "JawBench" ∈ ck_N := ck_inNc1 (i := 165) rfl rfl
theorem ml_X1_3 : Cond.methodLink RX1 3 objectInit ∈ ck_T := ck_inc1 (i := 168) rfl rfl
theorem ml_X11_39 : Cond.methodLinkNest RX11 39 yX6_init "JawBench" ∈ ck_N := ck_inNc1 (i := 222) rfl rfl
theorem ml_X6_3 : Cond.methodLink RX6 3 objectInit ∈ ck_T := ck_inc1 (i := 225) rfl rfl
theorem ml_X11_46 : Cond.methodLinkNest RX11 46 yX2_init "JawBench" ∈ ck_N := ck_inNc2 (i := 13) rfl rfl
theorem ml_X2_3 : Cond.methodLink RX2 3 objectInit ∈ ck_T := ck_inc2 (i := 16) rfl rfl
theorem ml_X11_53 : Cond.methodLinkNest RX11 53 yX7_init "JawBench" ∈ ck_N := ck_inNc2 (i := 33) rfl rfl
theorem ml_X7_3 : Cond.methodLink RX7 3 objectInit ∈ ck_T := ck_inc2 (i := 36) rfl rfl
theorem ml_X7_11 : Cond.methodLink RX7 11 yX5_init ∈ ck_T := ck_inc2 (i := 39) rfl rfl
theorem ml_X5_3 : Cond.methodLink RX5 3 objectInit ∈ ck_T := ck_inc2 (i := 42) rfl rfl
theorem ml_X7_53 : Cond.methodLinkNest RX7 53 yX4_init "JawBench" ∈ ck_N := ck_inNc2 (i := 57) rfl rfl
theorem ml_X4_3 : Cond.methodLink RX4 3 objectInit ∈ ck_T := ck_inc2 (i := 60) rfl rfl
theorem ml_X11_67 : Cond.methodLink RX11 67 yX10_init ∈ ck_T := ck_inc2 (i := 186) rfl rfl
theorem ml_X10_3 : Cond.methodLink RX10 3 objectInit ∈ ck_T := ck_inc2 (i := 189) rfl rfl
theorem ml_X11_76 : Cond.methodLink RX11 76 yX0_init ∈ ck_T := ck_inc3 (i := 1) rfl rfl
theorem ml_X0_3 : Cond.methodLink RX0 3 objectInit ∈ ck_T := ck_inc3 (i := 4) rfl rfl
theorem ml_X11_83 : Cond.methodLink RX11 83 yX1_beginAsTold ∈ ck_T := ck_inc3 (i := 33) rfl rfl
theorem ml_X1_41 : Cond.methodLink RX1 41 arraycopyName ∈ ck_T := ck_inc3 (i := 37) rfl rfl
theorem ml_L_21 : Cond.methodLink RL 21 yX11_feed ∈ ck_T := ck_inc3 (i := 86) rfl rfl
theorem ml_X11_89 : Cond.methodLink RX11 89 yX11_feedFour ∈ ck_T := ck_inc3 (i := 90) rfl rfl
theorem ml_L_26 : Cond.methodLink RL 26 yX11_text ∈ ck_T := ck_inc3 (i := 94) rfl rfl
theorem ml_X11_93 : Cond.methodLink RX11 93 yX9_readText ∈ ck_T := ck_inc3 (i := 98) rfl rfl
theorem ml_X9_33 : Cond.methodLink RX9 33 yX7_clear ∈ ck_T := ck_inc3 (i := 102) rfl rfl
theorem ml_X7_65 : Cond.methodLink RX7 65 yX4_clear ∈ ck_T := ck_inc3 (i := 106) rfl rfl
theorem ml_X9_41 : Cond.methodLink RX9 41 yX8_begin ∈ ck_T := ck_inc3 (i := 110) rfl rfl
theorem ml_X8_37 : Cond.methodLink RX8 37 yX8_next ∈ ck_T := ck_inc3 (i := 114) rfl rfl
theorem ml_X8_46 : Cond.methodLink RX8 46 yX8_readWord ∈ ck_T := ck_inc3 (i := 118) rfl rfl
theorem ml_X8_49 : Cond.methodLink RX8 49 yX8_readNumber ∈ ck_T := ck_inc3 (i := 122) rfl rfl
theorem ml_X8_52 : Cond.methodLink RX8 52 yX8_readSign ∈ ck_T := ck_inc3 (i := 127) rfl rfl
theorem ml_X9_48 : Cond.methodLink RX9 48 yX9_readLine ∈ ck_T := ck_inc3 (i := 131) rfl rfl
theorem ml_X9_58 : Cond.methodLink RX9 58 yX9_readJudge ∈ ck_T := ck_inc3 (i := 135) rfl rfl
theorem ml_X9_88 : Cond.methodLink RX9 88 yX5_isFull ∈ ck_T := ck_inc3 (i := 139) rfl rfl
theorem ml_X9_92 : Cond.methodLink RX9 92 yX9_takeWord ∈ ck_T := ck_inc3 (i := 143) rfl rfl
theorem ml_X9_55 : Cond.methodLink RX9 55 yX8_next ∈ ck_T := ck_inc3 (i := 147) rfl rfl
theorem ml_X9_95 : Cond.methodLink RX9 95 yX9_takeNewName ∈ ck_T := ck_inc3 (i := 148) rfl rfl
theorem ml_X9_174 : Cond.methodLink RX9 174 yX5_find ∈ ck_T := ck_inc3 (i := 152) rfl rfl
theorem ml_X9_99 : Cond.methodLink RX9 99 yX9_takeNumber ∈ ck_T := ck_inc3 (i := 156) rfl rfl
theorem ml_X9_103 : Cond.methodLink RX9 103 yX5_add ∈ ck_T := ck_inc3 (i := 160) rfl rfl
theorem ml_X9_61 : Cond.methodLink RX9 61 yX9_readNut ∈ ck_T := ck_inc3 (i := 164) rfl rfl
theorem ml_X9_64 : Cond.methodLink RX9 64 yX9_readSuit ∈ ck_T := ck_inc3 (i := 168) rfl rfl
theorem ml_X9_128 : Cond.methodLink RX9 128 yX9_takeToldName ∈ ck_T := ck_inc3 (i := 172) rfl rfl
theorem ml_X9_67 : Cond.methodLink RX9 67 yX9_readLever ∈ ck_T := ck_inc3 (i := 176) rfl rfl
theorem ml_X9_70 : Cond.methodLink RX9 70 yX9_readVacation ∈ ck_T := ck_inc3 (i := 180) rfl rfl
theorem ml_X9_73 : Cond.methodLink RX9 73 yX9_readSeed ∈ ck_T := ck_inc3 (i := 184) rfl rfl
theorem ml_X9_76 : Cond.methodLink RX9 76 yX9_readLaw ∈ ck_T := ck_inc3 (i := 189) rfl rfl
theorem ml_X9_161 : Cond.methodLink RX9 161 yX4_isTold ∈ ck_T := ck_inc3 (i := 193) rfl rfl
theorem ml_X9_167 : Cond.methodLink RX9 167 yX3_readInto ∈ ck_T := ck_inc3 (i := 197) rfl rfl
theorem ml_X3_41 : Cond.methodLink RX3 41 yX3_goesOn ∈ ck_T := ck_inc3 (i := 201) rfl rfl
theorem ml_X3_57 : Cond.methodLink RX3 57 yX3_rankOf ∈ ck_T := ck_inc3 (i := 205) rfl rfl
theorem ml_X3_45 : Cond.methodLink RX3 45 yX3_takeSide ∈ ck_T := ck_inc3 (i := 208) rfl rfl
theorem ml_X3_71 : Cond.methodLink RX3 71 yX3_takeOpen ∈ ck_T := ck_inc3 (i := 212) rfl rfl
theorem ml_X3_78 : Cond.methodLink RX3 78 yX3_hold ∈ ck_T := ck_inc3 (i := 216) rfl rfl
theorem ml_X3_82 : Cond.methodLink RX3 82 yX4_add ∈ ck_T := ck_inc3 (i := 220) rfl rfl
theorem ml_X3_49 : Cond.methodLink RX3 49 yX3_takeSign ∈ ck_T := ck_inc3 (i := 224) rfl rfl
theorem ml_X3_61 : Cond.methodLink RX3 61 yX3_release ∈ ck_T := ck_inc3 (i := 228) rfl rfl
theorem ml_X3_86 : Cond.methodLink RX3 86 yX3_dropOpen ∈ ck_T := ck_inc3 (i := 232) rfl rfl
theorem ml_X3_52 : Cond.methodLink RX3 52 yX8_next ∈ ck_T := ck_inc3 (i := 236) rfl rfl
theorem ml_X11_100 : Cond.methodLink RX11 100 yX9_place ∈ ck_T := ck_inc3 (i := 237) rfl rfl
theorem ml_X11_105 : Cond.methodLink RX11 105 yX6_clear ∈ ck_T := ck_inc4 (i := 1) rfl rfl
theorem ml_X11_108 : Cond.methodLink RX11 108 yX2_clear ∈ ck_T := ck_inc4 (i := 5) rfl rfl
theorem ml_L_31 : Cond.methodLink RL 31 yX11_fault ∈ ck_T := ck_inc4 (i := 9) rfl rfl
theorem ml_L_35 : Cond.methodLink RL 35 yX11_named ∈ ck_T := ck_inc4 (i := 13) rfl rfl
theorem ml_X11_120 : Cond.methodLink RX11 120 yX5_find ∈ ck_T := ck_inc4 (i := 17) rfl rfl
theorem ml_L_49 : Cond.methodLink RL 49 yX11_judge ∈ ck_T := ck_inc4 (i := 18) rfl rfl
theorem ml_X11_168 : Cond.methodLink RX11 168 yX11_isJudge ∈ ck_T := ck_inc4 (i := 22) rfl rfl
theorem ml_X11_177 : Cond.methodLink RX11 177 yX11_triedBy ∈ ck_T := ck_inc4 (i := 26) rfl rfl
theorem ml_X11_180 : Cond.methodLink RX11 180 yX11_wholeOnesBy ∈ ck_T := ck_inc4 (i := 30) rfl rfl
theorem ml_L_53 : Cond.methodLink RL 53 yX11_nut ∈ ck_T := ck_inc4 (i := 34) rfl rfl
theorem ml_X11_183 : Cond.methodLink RX11 183 yX11_isNut ∈ ck_T := ck_inc4 (i := 38) rfl rfl
theorem ml_L_57 : Cond.methodLink RL 57 yX11_force ∈ ck_T := ck_inc4 (i := 42) rfl rfl
theorem ml_X11_195 : Cond.methodLink RX11 195 yX11_verdictWithoutStone ∈ ck_T := ck_inc4 (i := 46) rfl rfl
theorem ml_X11_237 : Cond.methodLink RX11 237 yX10_asTheyAre ∈ ck_T := ck_inc4 (i := 50) rfl rfl
theorem ml_X10_48 : Cond.methodLink RX10 48 yX10_clearLoad ∈ ck_T := ck_inc4 (i := 54) rfl rfl
theorem ml_X11_275 : Cond.methodLink RX11 275 yX10_measured ∈ ck_T := ck_inc4 (i := 58) rfl rfl
theorem ml_X10_158 : Cond.methodLink RX10 158 yX4_worked ∈ ck_T := ck_inc4 (i := 62) rfl rfl
theorem ml_X4_32 : Cond.methodLink RX4 32 yX4_sidesOf ∈ ck_T := ck_inc4 (i := 66) rfl rfl
theorem ml_X4_38 : Cond.methodLink RX4 38 yX4_joined ∈ ck_T := ck_inc4 (i := 70) rfl rfl
theorem ml_X4_46 : Cond.methodLink RX4 46 yX4_product ∈ ck_T := ck_inc4 (i := 73) rfl rfl
theorem ml_X10_166 : Cond.methodLink RX10 166 yX10_within ∈ ck_T := ck_inc4 (i := 79) rfl rfl
theorem ml_L_61 : Cond.methodLink RL 61 yX11_slack ∈ ck_T := ck_inc4 (i := 82) rfl rfl
theorem ml_L_65 : Cond.methodLink RL 65 yX11_verdict ∈ ck_T := ck_inc4 (i := 86) rfl rfl
theorem ml_L_69 : Cond.methodLink RL 69 yX11_law ∈ ck_T := ck_inc4 (i := 90) rfl rfl
theorem ml_X11_215 : Cond.methodLink RX11 215 yX4_worked ∈ ck_T := ck_inc4 (i := 95) rfl rfl
theorem ml_L_74 : Cond.methodLink RL 74 yX11_give ∈ ck_T := ck_inc4 (i := 96) rfl rfl
theorem ml_X11_221 : Cond.methodLink RX11 221 yX11_isPending ∈ ck_T := ck_inc4 (i := 100) rfl rfl
theorem ml_X11_132 : Cond.methodLink RX11 132 yX11_isSuit ∈ ck_T := ck_inc4 (i := 104) rfl rfl
theorem ml_X11_224 : Cond.methodLink RX11 224 yX2_add ∈ ck_T := ck_inc4 (i := 108) rfl rfl
theorem ml_X2_25 : Cond.methodLink RX2 25 yX2_forgetFirst ∈ ck_T := ck_inc4 (i := 112) rfl rfl
theorem ml_X2_28 : Cond.methodLink RX2 28 arraycopyName ∈ ck_T := ck_inc4 (i := 116) rfl rfl
theorem ml_L_79 : Cond.methodLink RL 79 yX11_stone ∈ ck_T := ck_inc4 (i := 117) rfl rfl
theorem ml_X11_153 : Cond.methodLink RX11 153 yX1_hasStone ∈ ck_T := ck_inc4 (i := 121) rfl rfl
theorem ml_L_84 : Cond.methodLink RL 84 yX11_put ∈ ck_T := ck_inc4 (i := 125) rfl rfl
theorem ml_L_88 : Cond.methodLink RL 88 yX11_oil ∈ ck_T := ck_inc4 (i := 129) rfl rfl
theorem ml_L_92 : Cond.methodLink RL 92 yX11_go ∈ ck_T := ck_inc4 (i := 133) rfl rfl
theorem ml_X11_240 : Cond.methodLink RX11 240 yX10_pass ∈ ck_T := ck_inc4 (i := 137) rfl rfl
theorem ml_X10_56 : Cond.methodLink RX10 56 yX10_nextDayWithSuits ∈ ck_T := ck_inc4 (i := 141) rfl rfl
theorem ml_X10_76 : Cond.methodLink RX10 76 yX10_isOpen ∈ ck_T := ck_inc4 (i := 145) rfl rfl
theorem ml_X10_60 : Cond.methodLink RX10 60 yX10_moveTo ∈ ck_T := ck_inc4 (i := 149) rfl rfl
theorem ml_X10_97 : Cond.methodLink RX10 97 arraycopyName ∈ ck_T := ck_inc4 (i := 153) rfl rfl
theorem ml_X10_80 : Cond.methodLink RX10 80 yX10_tryOne ∈ ck_T := ck_inc4 (i := 154) rfl rfl
theorem ml_X10_103 : Cond.methodLink RX10 103 yX10_hardnessOf ∈ ck_T := ck_inc4 (i := 158) rfl rfl
theorem ml_X10_132 : Cond.methodLink RX10 132 yX1_hasStone ∈ ck_T := ck_inc4 (i := 162) rfl rfl
theorem ml_X10_106 : Cond.methodLink RX10 106 yX10_drawn ∈ ck_T := ck_inc4 (i := 163) rfl rfl
theorem ml_X10_113 : Cond.methodLink RX10 113 yX10_measured ∈ ck_T := ck_inc4 (i := 171) rfl rfl
theorem ml_X10_117 : Cond.methodLink RX10 117 yX10_wear ∈ ck_T := ck_inc4 (i := 172) rfl rfl
theorem ml_L_96 : Cond.methodLink RL 96 yX11_ahead ∈ ck_T := ck_inc4 (i := 176) rfl rfl
theorem ml_X11_244 : Cond.methodLink RX11 244 yX0_think ∈ ck_T := ck_inc4 (i := 180) rfl rfl
theorem ml_X0_32 : Cond.methodLink RX0 32 yX10_asTheyAre ∈ ck_T := ck_inc4 (i := 184) rfl rfl
theorem ml_X0_37 : Cond.methodLink RX0 37 yX1_becomeLike ∈ ck_T := ck_inc4 (i := 185) rfl rfl
theorem ml_X11_247 : Cond.methodLink RX11 247 yX11_verdictsOf ∈ ck_T := ck_inc4 (i := 189) rfl rfl
theorem ml_X11_250 : Cond.methodLink RX11 250 yX0_gainMore ∈ ck_T := ck_inc4 (i := 193) rfl rfl
theorem ml_X0_58 : Cond.methodLink RX0 58 yX10_gained ∈ ck_T := ck_inc4 (i := 197) rfl rfl
theorem ml_X10_173 : Cond.methodLink RX10 173 yX10_gainOf ∈ ck_T := ck_inc4 (i := 201) rfl rfl
theorem ml_X11_253 : Cond.methodLink RX11 253 yX11_teethOf ∈ ck_T := ck_inc4 (i := 205) rfl rfl
theorem ml_L_100 : Cond.methodLink RL 100 yX11_deal ∈ ck_T := ck_inc4 (i := 209) rfl rfl
theorem ml_X11_260 : Cond.methodLink RX11 260 yX0_seekDeal ∈ ck_T := ck_inc4 (i := 213) rfl rfl
theorem ml_X0_84 : Cond.methodLink RX0 84 yX0_think ∈ ck_T := ck_inc4 (i := 217) rfl rfl
theorem ml_X0_90 : Cond.methodLink RX0 90 yX10_pass ∈ ck_T := ck_inc4 (i := 218) rfl rfl
theorem ml_X0_94 : Cond.methodLink RX0 94 yX0_keepIfBetter ∈ ck_T := ck_inc4 (i := 219) rfl rfl
theorem ml_X0_107 : Cond.methodLink RX0 107 yX0_gainMore ∈ ck_T := ck_inc4 (i := 223) rfl rfl
theorem ml_X0_111 : Cond.methodLink RX0 111 arraycopyName ∈ ck_T := ck_inc4 (i := 224) rfl rfl
theorem ml_X0_100 : Cond.methodLink RX0 100 yX0_nextDeal ∈ ck_T := ck_inc4 (i := 225) rfl rfl
theorem ml_L_104 : Cond.methodLink RL 104 yX11_order ∈ ck_T := ck_inc4 (i := 229) rfl rfl
theorem ml_X11_272 : Cond.methodLink RX11 272 yX0_seekOrder ∈ ck_T := ck_inc4 (i := 233) rfl rfl
theorem ml_X0_117 : Cond.methodLink RX0 117 yX10_tryOne ∈ ck_T := ck_inc4 (i := 237) rfl rfl
theorem ml_X0_120 : Cond.methodLink RX0 120 yX0_nextOrder ∈ ck_T := ck_inc4 (i := 238) rfl rfl
theorem ml_X0_124 : Cond.methodLink RX0 124 yX0_swap ∈ ck_T := ck_inc5 (i := 2) rfl rfl
theorem ml_L_108 : Cond.methodLink RL 108 yX11_enough ∈ ck_T := ck_inc5 (i := 6) rfl rfl
theorem ml_L_112 : Cond.methodLink RL 112 yX11_spoil ∈ ck_T := ck_inc5 (i := 10) rfl rfl
theorem ml_X11_279 : Cond.methodLink RX11 279 yX0_fewestStones ∈ ck_T := ck_inc5 (i := 14) rfl rfl
theorem ml_X0_128 : Cond.methodLink RX0 128 yX1_hasStone ∈ ck_T := ck_inc5 (i := 18) rfl rfl
theorem ml_X0_132 : Cond.methodLink RX0 132 yJ6_bitCount_0f7a4 ∈ ck_T := ck_inc5 (i := 19) rfl rfl
theorem ml_X0_141 : Cond.methodLink RX0 141 yX0_bitsOfSuits ∈ ck_T := ck_inc5 (i := 25) rfl rfl
theorem ml_L_116 : Cond.methodLink RL 116 yX11_rests ∈ ck_T := ck_inc5 (i := 29) rfl rfl
theorem ml_X11_282 : Cond.methodLink RX11 282 yX11_verdictNow ∈ ck_T := ck_inc5 (i := 33) rfl rfl
theorem ml_X11_293 : Cond.methodLink RX11 293 yX10_hardnessOf ∈ ck_T := ck_inc5 (i := 37) rfl rfl
theorem ml_X11_285 : Cond.methodLink RX11 285 yX11_isRest ∈ ck_T := ck_inc5 (i := 38) rfl rfl
theorem ml_X11_358 : Cond.methodLink RX11 358 yX11_shareOfFirst ∈ ck_T := ck_inc5 (i := 41) rfl rfl
theorem ml_X11_362 : Cond.methodLink RX11 362 yX11_shareOfSecond ∈ ck_T := ck_inc5 (i := 44) rfl rfl
theorem ml_L_120 : Cond.methodLink RL 120 yX11_rest ∈ ck_T := ck_inc5 (i := 47) rfl rfl
theorem ml_L_124 : Cond.methodLink RL 124 yX11_twins ∈ ck_T := ck_inc5 (i := 51) rfl rfl
theorem ml_X11_289 : Cond.methodLink RX11 289 yX11_areTwins ∈ ck_T := ck_inc5 (i := 55) rfl rfl
theorem ml_L_128 : Cond.methodLink RL 128 yX11_likely ∈ ck_T := ck_inc5 (i := 59) rfl rfl
theorem ml_X11_296 : Cond.methodLink RX11 296 yX11_commonWithTen ∈ ck_T := ck_inc5 (i := 63) rfl rfl
theorem ml_L_132 : Cond.methodLink RL 132 yX11_wholeBy ∈ ck_T := ck_inc5 (i := 66) rfl rfl
theorem ml_L_136 : Cond.methodLink RL 136 yX11_docket ∈ ck_T := ck_inc5 (i := 70) rfl rfl
theorem ml_L_140 : Cond.methodLink RL 140 yX11_crown ∈ ck_T := ck_inc5 (i := 74) rfl rfl
theorem ml_L_144 : Cond.methodLink RL 144 yX11_nextTooth ∈ ck_T := ck_inc5 (i := 78) rfl rfl
theorem ml_L_148 : Cond.methodLink RL 148 yX11_note ∈ ck_T := ck_inc5 (i := 82) rfl rfl
theorem ml_X11_302 : Cond.methodLink RX11 302 yX6_add ∈ ck_T := ck_inc5 (i := 86) rfl rfl
theorem ml_L_153 : Cond.methodLink RL 153 yX11_out ∈ ck_T := ck_inc5 (i := 90) rfl rfl
theorem ml_L_157 : Cond.methodLink RL 157 yX11_known ∈ ck_T := ck_inc5 (i := 94) rfl rfl
theorem ml_L_162 : Cond.methodLink RL 162 yX11_levers ∈ ck_T := ck_inc5 (i := 98) rfl rfl
theorem ml_X11_309 : Cond.methodLink RX11 309 yX6_findStruck ∈ ck_T := ck_inc5 (i := 102) rfl rfl
theorem ml_X6_35 : Cond.methodLink RX6 35 yX6_countConsidered ∈ ck_T := ck_inc5 (i := 106) rfl rfl
theorem ml_X11_312 : Cond.methodLink RX11 312 yX0_thinkFromTextWith ∈ ck_T := ck_inc5 (i := 110) rfl rfl
theorem ml_X0_51 : Cond.methodLink RX0 51 yX1_beginAsTold ∈ ck_T := ck_inc5 (i := 114) rfl rfl
theorem ml_X11_315 : Cond.methodLink RX11 315 yX6_agreeWith ∈ ck_T := ck_inc5 (i := 115) rfl rfl
theorem ml_L_166 : Cond.methodLink RL 166 yX11_chance ∈ ck_T := ck_inc5 (i := 119) rfl rfl
theorem ml_X11_326 : Cond.methodLink RX11 326 yX1_becomeLike ∈ ck_T := ck_inc5 (i := 123) rfl rfl
theorem ml_L_171 : Cond.methodLink RL 171 yX11_tried ∈ ck_T := ck_inc5 (i := 124) rfl rfl
theorem ml_L_175 : Cond.methodLink RL 175 yX11_undo ∈ ck_T := ck_inc5 (i := 128) rfl rfl
theorem ml_X11_343 : Cond.methodLink RX11 343 yX2_takeBackLatest ∈ ck_T := ck_inc5 (i := 132) rfl rfl
theorem ml_L_179 : Cond.methodLink RL 179 yX11_keep ∈ ck_T := ck_inc5 (i := 136) rfl rfl
theorem ml_L_183 : Cond.methodLink RL 183 yX11_back ∈ ck_T := ck_inc5 (i := 140) rfl rfl
theorem ml_L_187 : Cond.methodLink RL 187 yX11_count ∈ ck_T := ck_inc5 (i := 144) rfl rfl
theorem ml_X11_349 : Cond.methodLink RX11 349 yX10_gained ∈ ck_T := ck_inc5 (i := 148) rfl rfl
theorem ml_X11_352 : Cond.methodLink RX11 352 yX11_worthOfCrumbs ∈ ck_T := ck_inc5 (i := 149) rfl rfl
theorem ml_X11_355 : Cond.methodLink RX11 355 yX6_countConsidered ∈ ck_T := ck_inc5 (i := 153) rfl rfl
theorem ml_L_39 : Cond.methodLink RL 39 yL_suit ∈ ck_T := ck_inc5 (i := 154) rfl rfl
theorem ml_L_7 : Cond.methodLink RL 7 yX11_suit ∈ ck_T := ck_inc5 (i := 159) rfl rfl
theorem ml_X11_159 : Cond.methodLink RX11 159 yX10_gainOf ∈ ck_T := ck_inc5 (i := 229) rfl rfl
theorem ml_L_20 : Cond.methodLink RL 20 yX12_init ∈ ck_T := ck_inc6 (i := 8) rfl rfl
theorem ml_X12_1 : Cond.methodLink RX12 1 objectInit ∈ ck_T := ck_inc6 (i := 11) rfl rfl
theorem ml_X12_142 : Cond.methodLink RX12 142 yX12_begins ∈ ck_T := ck_inc6 (i := 12) rfl rfl
theorem ml_X12_328 : Cond.methodLink RX12 328 yX12_starts ∈ ck_T := ck_inc6 (i := 16) rfl rfl
theorem ml_X12_325 : Cond.methodLink RX12 325 yX12_leverAs ∈ ck_T := ck_inc6 (i := 20) rfl rfl
theorem ml_L_45 : Cond.methodLink RL 45 yX12_thrown ∈ ck_T := ck_inc6 (i := 232) rfl rfl
theorem ml_L_25 : Cond.methodLink RL 25 yX12_feed ∈ ck_T := ck_inc6 (i := 236) rfl rfl
theorem ml_L_30 : Cond.methodLink RL 30 yX12_text ∈ ck_T := ck_inc7 (i := 0) rfl rfl
theorem ml_X12_236 : Cond.methodLink RX12 236 yX12_reads ∈ ck_T := ck_inc7 (i := 4) rfl rfl
theorem ml_X12_205 : Cond.methodLink RX12 205 yX12_token ∈ ck_T := ck_inc7 (i := 8) rfl rfl
theorem ml_X12_157 : Cond.methodLink RX12 157 yX12_here ∈ ck_T := ck_inc7 (i := 12) rfl rfl
theorem ml_X12_167 : Cond.methodLink RX12 167 yX12_isSmall ∈ ck_T := ck_inc7 (i := 16) rfl rfl
theorem ml_X12_171 : Cond.methodLink RX12 171 yX12_word ∈ ck_T := ck_inc7 (i := 19) rfl rfl
theorem ml_X12_190 : Cond.methodLink RX12 190 yJ0_length_8abf5 ∈ ck_T := ck_inc7 (i := 24) rfl rfl
theorem ml_X12_195 : Cond.methodLink RX12 195 yJ0_charAt_5068e ∈ ck_T := ck_inc7 (i := 25) rfl rfl
theorem ml_X12_177 : Cond.methodLink RX12 177 yX12_name ∈ ck_T := ck_inc7 (i := 26) rfl rfl
theorem ml_X12_180 : Cond.methodLink RX12 180 yX12_isDigit ∈ ck_T := ck_inc7 (i := 30) rfl rfl
theorem ml_X12_184 : Cond.methodLink RX12 184 yX12_sign ∈ ck_T := ck_inc7 (i := 34) rfl rfl
theorem ml_X12_285 : Cond.methodLink RX12 285 yX12_line ∈ ck_T := ck_inc7 (i := 38) rfl rfl
theorem ml_X12_208 : Cond.methodLink RX12 208 yX12_wrong ∈ ck_T := ck_inc7 (i := 42) rfl rfl
theorem ml_X12_222 : Cond.methodLink RX12 222 yX12_isFull ∈ ck_T := ck_inc7 (i := 46) rfl rfl
theorem ml_X12_218 : Cond.methodLink RX12 218 yX12_fresher ∈ ck_T := ck_inc7 (i := 50) rfl rfl
theorem ml_X12_228 : Cond.methodLink RX12 228 yX12_fresh ∈ ck_T := ck_inc7 (i := 54) rfl rfl
theorem ml_X12_211 : Cond.methodLink RX12 211 yX12_found ∈ ck_T := ck_inc7 (i := 58) rfl rfl
theorem ml_X12_232 : Cond.methodLink RX12 232 yX12_numeral ∈ ck_T := ck_inc7 (i := 61) rfl rfl
theorem ml_X12_240 : Cond.methodLink RX12 240 yX12_toldAhead ∈ ck_T := ck_inc7 (i := 65) rfl rfl
theorem ml_X12_215 : Cond.methodLink RX12 215 yX12_goOn ∈ ck_T := ck_inc7 (i := 69) rfl rfl
theorem ml_X12_243 : Cond.methodLink RX12 243 yX12_lawLine ∈ ck_T := ck_inc7 (i := 73) rfl rfl
theorem ml_X12_252 : Cond.methodLink RX12 252 yX12_expression ∈ ck_T := ck_inc7 (i := 77) rfl rfl
theorem ml_X12_258 : Cond.methodLink RX12 258 yX12_conjunction ∈ ck_T := ck_inc7 (i := 81) rfl rfl
theorem ml_X12_270 : Cond.methodLink RX12 270 yX12_negation ∈ ck_T := ck_inc7 (i := 85) rfl rfl
theorem ml_X12_261 : Cond.methodLink RX12 261 yX12_isWord ∈ ck_T := ck_inc7 (i := 89) rfl rfl
theorem ml_X12_264 : Cond.methodLink RX12 264 yX12_knot ∈ ck_T := ck_inc7 (i := 93) rfl rfl
theorem ml_X12_267 : Cond.methodLink RX12 267 yX12_puts ∈ ck_T := ck_inc7 (i := 97) rfl rfl
theorem ml_X12_273 : Cond.methodLink RX12 273 yX12_sum ∈ ck_T := ck_inc7 (i := 101) rfl rfl
theorem ml_X12_276 : Cond.methodLink RX12 276 yX12_product ∈ ck_T := ck_inc7 (i := 105) rfl rfl
theorem ml_X12_279 : Cond.methodLink RX12 279 yX12_primary ∈ ck_T := ck_inc7 (i := 109) rfl rfl
theorem ml_X12_246 : Cond.methodLink RX12 246 yX12_isSign ∈ ck_T := ck_inc7 (i := 113) rfl rfl
theorem ml_X12_291 : Cond.methodLink RX12 291 yX12_half ∈ ck_T := ck_inc7 (i := 117) rfl rfl
theorem ml_L_34 : Cond.methodLink RL 34 yX12_fault ∈ ck_T := ck_inc7 (i := 120) rfl rfl
theorem ml_L_38 : Cond.methodLink RL 38 yX12_named ∈ ck_T := ck_inc7 (i := 124) rfl rfl
theorem ml_L_44 : Cond.methodLink RL 44 yX12_suit ∈ ck_T := ck_inc7 (i := 128) rfl rfl
theorem ml_X12_401 : Cond.methodLink RX12 401 yX12_isSuit ∈ ck_T := ck_inc7 (i := 132) rfl rfl
theorem ml_X12_398 : Cond.methodLink RX12 398 yX12_gainOf ∈ ck_T := ck_inc7 (i := 136) rfl rfl
theorem ml_L_52 : Cond.methodLink RL 52 yX12_judge ∈ ck_T := ck_inc7 (i := 140) rfl rfl
theorem ml_X12_404 : Cond.methodLink RX12 404 yX12_isJudge ∈ ck_T := ck_inc7 (i := 144) rfl rfl
theorem ml_X12_407 : Cond.methodLink RX12 407 yX12_triedBy ∈ ck_T := ck_inc7 (i := 148) rfl rfl
theorem ml_X12_379 : Cond.methodLink RX12 379 yX12_isOpen ∈ ck_T := ck_inc7 (i := 152) rfl rfl
theorem ml_L_56 : Cond.methodLink RL 56 yX12_nut ∈ ck_T := ck_inc7 (i := 156) rfl rfl
theorem ml_X12_410 : Cond.methodLink RX12 410 yX12_isNut ∈ ck_T := ck_inc7 (i := 160) rfl rfl
theorem ml_L_60 : Cond.methodLink RL 60 yX12_force ∈ ck_T := ck_inc7 (i := 164) rfl rfl
theorem ml_X12_355 : Cond.methodLink RX12 355 yX12_forceOf ∈ ck_T := ck_inc7 (i := 168) rfl rfl
theorem ml_X12_344 : Cond.methodLink RX12 344 yX12_calls ∈ ck_T := ck_inc7 (i := 172) rfl rfl
theorem ml_X12_348 : Cond.methodLink RX12 348 yX12_within ∈ ck_T := ck_inc7 (i := 176) rfl rfl
theorem ml_X12_331 : Cond.methodLink RX12 331 yX12_hasLaw ∈ ck_T := ck_inc7 (i := 180) rfl rfl
theorem ml_X12_334 : Cond.methodLink RX12 334 yX12_goes ∈ ck_T := ck_inc7 (i := 184) rfl rfl
theorem ml_X12_322 : Cond.methodLink RX12 322 yX12_works ∈ ck_T := ck_inc7 (i := 188) rfl rfl
theorem ml_X12_308 : Cond.methodLink RX12 308 yX12_is ∈ ck_T := ck_inc7 (i := 192) rfl rfl
theorem ml_X12_312 : Cond.methodLink RX12 312 Lib.MathLoose.abs_long.x ∈ ck_T := ck_inc7 (i := 195) rfl rfl
theorem ml_X12_337 : Cond.methodLink RX12 337 Lib.MathLoose.min_long.x ∈ ck_T := ck_inc7 (i := 200) rfl rfl
theorem ml_X12_341 : Cond.methodLink RX12 341 Lib.MathLoose.max_long.x ∈ ck_T := ck_inc7 (i := 203) rfl rfl
theorem ml_L_64 : Cond.methodLink RL 64 yX12_slack ∈ ck_T := ck_inc7 (i := 206) rfl rfl
theorem ml_X12_358 : Cond.methodLink RX12 358 yX12_slackOf ∈ ck_T := ck_inc7 (i := 210) rfl rfl
theorem ml_L_68 : Cond.methodLink RL 68 yX12_verdict ∈ ck_T := ck_inc7 (i := 214) rfl rfl
theorem ml_X12_374 : Cond.methodLink RX12 374 yX12_verdictAt ∈ ck_T := ck_inc7 (i := 218) rfl rfl
theorem ml_L_73 : Cond.methodLink RL 73 yX12_law ∈ ck_T := ck_inc7 (i := 222) rfl rfl
theorem ml_L_78 : Cond.methodLink RL 78 yX12_give ∈ ck_T := ck_inc7 (i := 227) rfl rfl
theorem ml_X12_420 : Cond.methodLink RX12 420 yX12_keepNow ∈ ck_T := ck_inc7 (i := 231) rfl rfl
theorem ml_X12_417 : Cond.methodLink RX12 417 yX12_copies ∈ ck_T := ck_inc7 (i := 235) rfl rfl
theorem ml_L_83 : Cond.methodLink RL 83 yX12_stone ∈ ck_T := ck_inc7 (i := 239) rfl rfl
theorem ml_L_87 : Cond.methodLink RL 87 yX12_put ∈ ck_T := ck_inc8 (i := 3) rfl rfl
theorem ml_L_91 : Cond.methodLink RL 91 yX12_oil ∈ ck_T := ck_inc8 (i := 7) rfl rfl
theorem ml_L_95 : Cond.methodLink RL 95 yX12_go ∈ ck_T := ck_inc8 (i := 11) rfl rfl
theorem ml_X12_395 : Cond.methodLink RX12 395 yX12_passes ∈ ck_T := ck_inc8 (i := 15) rfl rfl
theorem ml_X12_389 : Cond.methodLink RX12 389 yX12_triesAll ∈ ck_T := ck_inc8 (i := 19) rfl rfl
theorem ml_X12_383 : Cond.methodLink RX12 383 yX12_isDue ∈ ck_T := ck_inc8 (i := 23) rfl rfl
theorem ml_X12_386 : Cond.methodLink RX12 386 yX12_tries ∈ ck_T := ck_inc8 (i := 27) rfl rfl
theorem ml_X12_361 : Cond.methodLink RX12 361 yX12_hardness ∈ ck_T := ck_inc8 (i := 31) rfl rfl
theorem ml_X12_377 : Cond.methodLink RX12 377 Lib.Math.max.name ∈ ck_T := ck_inc8 (i := 37) rfl rfl
theorem ml_X12_392 : Cond.methodLink RX12 392 yX12_ends ∈ ck_T := ck_inc8 (i := 40) rfl rfl
theorem ml_L_99 : Cond.methodLink RL 99 yX12_ahead ∈ ck_T := ck_inc8 (i := 44) rfl rfl
theorem ml_X12_423 : Cond.methodLink RX12 423 yX12_goesOn ∈ ck_T := ck_inc8 (i := 48) rfl rfl
theorem ml_X12_426 : Cond.methodLink RX12 426 yX12_manyOf ∈ ck_T := ck_inc8 (i := 52) rfl rfl
theorem ml_X12_429 : Cond.methodLink RX12 429 yX12_gainAll ∈ ck_T := ck_inc8 (i := 56) rfl rfl
theorem ml_X12_432 : Cond.methodLink RX12 432 yX12_teethAll ∈ ck_T := ck_inc8 (i := 60) rfl rfl
theorem ml_L_103 : Cond.methodLink RL 103 yX12_deal ∈ ck_T := ck_inc8 (i := 64) rfl rfl
theorem ml_X12_447 : Cond.methodLink RX12 447 yX12_layDeal ∈ ck_T := ck_inc8 (i := 68) rfl rfl
theorem ml_X12_441 : Cond.methodLink RX12 441 yX12_power ∈ ck_T := ck_inc8 (i := 72) rfl rfl
theorem ml_L_107 : Cond.methodLink RL 107 yX12_order ∈ ck_T := ck_inc8 (i := 75) rfl rfl
theorem ml_X12_453 : Cond.methodLink RX12 453 yX12_orders ∈ ck_T := ck_inc8 (i := 79) rfl rfl
theorem ml_L_111 : Cond.methodLink RL 111 yX12_enough ∈ ck_T := ck_inc8 (i := 83) rfl rfl
theorem ml_L_115 : Cond.methodLink RL 115 yX12_spoil ∈ ck_T := ck_inc8 (i := 87) rfl rfl
theorem ml_X12_459 : Cond.methodLink RX12 459 yX12_bitsOf ∈ ck_T := ck_inc8 (i := 91) rfl rfl
theorem ml_L_119 : Cond.methodLink RL 119 yX12_rests ∈ ck_T := ck_inc8 (i := 94) rfl rfl
theorem ml_X12_465 : Cond.methodLink RX12 465 yX12_isOpenSuit ∈ ck_T := ck_inc8 (i := 98) rfl rfl
theorem ml_X12_468 : Cond.methodLink RX12 468 yX12_laySettle ∈ ck_T := ck_inc8 (i := 102) rfl rfl
theorem ml_X12_471 : Cond.methodLink RX12 471 yX12_restOf ∈ ck_T := ck_inc8 (i := 106) rfl rfl
theorem ml_X12_462 : Cond.methodLink RX12 462 yX12_isRest ∈ ck_T := ck_inc8 (i := 110) rfl rfl
theorem ml_L_123 : Cond.methodLink RL 123 yX12_rest ∈ ck_T := ck_inc8 (i := 114) rfl rfl
theorem ml_L_127 : Cond.methodLink RL 127 yX12_twins ∈ ck_T := ck_inc8 (i := 118) rfl rfl
theorem ml_L_131 : Cond.methodLink RL 131 yX12_likely ∈ ck_T := ck_inc8 (i := 122) rfl rfl
theorem ml_X12_474 : Cond.methodLink RX12 474 yX12_common ∈ ck_T := ck_inc8 (i := 126) rfl rfl
theorem ml_L_143 : Cond.methodLink RL 143 yX12_crown ∈ ck_T := ck_inc8 (i := 129) rfl rfl
theorem ml_L_147 : Cond.methodLink RL 147 yX12_nextTooth ∈ ck_T := ck_inc8 (i := 133) rfl rfl
theorem ml_L_135 : Cond.methodLink RL 135 yX12_wholeBy ∈ ck_T := ck_inc8 (i := 137) rfl rfl
theorem ml_L_139 : Cond.methodLink RL 139 yX12_docket ∈ ck_T := ck_inc8 (i := 141) rfl rfl
theorem ml_L_152 : Cond.methodLink RL 152 yX12_note ∈ ck_T := ck_inc8 (i := 145) rfl rfl
theorem ml_L_156 : Cond.methodLink RL 156 yX12_out ∈ ck_T := ck_inc8 (i := 149) rfl rfl
theorem ml_L_161 : Cond.methodLink RL 161 yX12_known ∈ ck_T := ck_inc8 (i := 153) rfl rfl
theorem ml_L_165 : Cond.methodLink RL 165 yX12_levers ∈ ck_T := ck_inc8 (i := 157) rfl rfl
theorem ml_X12_477 : Cond.methodLink RX12 477 yX12_knownMany ∈ ck_T := ck_inc8 (i := 161) rfl rfl
theorem ml_X12_480 : Cond.methodLink RX12 480 yX12_fitsLever ∈ ck_T := ck_inc8 (i := 165) rfl rfl
theorem ml_L_170 : Cond.methodLink RL 170 yX12_chance ∈ ck_T := ck_inc8 (i := 169) rfl rfl
theorem ml_L_174 : Cond.methodLink RL 174 yX12_tried ∈ ck_T := ck_inc8 (i := 173) rfl rfl
theorem ml_L_178 : Cond.methodLink RL 178 yX12_undo ∈ ck_T := ck_inc8 (i := 177) rfl rfl
theorem ml_L_182 : Cond.methodLink RL 182 yX12_keep ∈ ck_T := ck_inc8 (i := 181) rfl rfl
theorem ml_L_186 : Cond.methodLink RL 186 yX12_back ∈ ck_T := ck_inc8 (i := 185) rfl rfl
theorem ml_L_190 : Cond.methodLink RL 190 yX12_count ∈ ck_T := ck_inc8 (i := 189) rfl rfl
theorem ml_X12_483 : Cond.methodLink RX12 483 yX12_mouseAll ∈ ck_T := ck_inc8 (i := 193) rfl rfl
theorem fj_J0_38 : Cond.fieldLink RJ0 38 "java/lang/String" "COMPACT_STRINGS" "Z" ∈ ck_T := ck_inc1 (i := 55) rfl rfl
theorem fj_J0_1053 : Cond.fieldLink RJ0 1053 "jdk/internal/util/Preconditions" "SIOOBE_FORMATTER" "Ljava/util/function/BiFunction;" ∈ ck_T := ck_inc1 (i := 71) rfl rfl
theorem fl_X8_15 : Cond.fieldLink RX8 15 (TX8 0).1 (TX8 0).2.1 (TX8 0).2.2.1 ∈ ck_T := ck_inc1 (i := 95) rfl rfl
theorem fl_X8_9 : Cond.fieldLink RX8 9 (TX8 1).1 (TX8 1).2.1 (TX8 1).2.2.1 ∈ ck_T := ck_inc1 (i := 96) rfl rfl
theorem fl_X8_31 : Cond.fieldLink RX8 31 (TX8 2).1 (TX8 2).2.1 (TX8 2).2.2.1 ∈ ck_T := ck_inc1 (i := 97) rfl rfl
theorem fl_X8_34 : Cond.fieldLink RX8 34 (TX8 3).1 (TX8 3).2.1 (TX8 3).2.2.1 ∈ ck_T := ck_inc1 (i := 98) rfl rfl
theorem fl_X3_68 : Cond.fieldLinkNest RX3 68 (TX8 4).1 (TX8 4).2.1 (TX8 4).2.2.1 "JawBench" ∈ ck_N := ck_inNc1 (i := 99) rfl rfl
theorem fl_X9_45 : Cond.fieldLinkNest RX9 45 (TX8 4).1 (TX8 4).2.1 (TX8 4).2.2.1 "JawBench" ∈ ck_N := ck_inNc1 (i := 100) rfl rfl
theorem fl_X8_43 : Cond.fieldLink RX8 43 (TX8 4).1 (TX8 4).2.1 (TX8 4).2.2.1 ∈ ck_T := ck_inc1 (i := 101) rfl rfl
theorem fl_X9_29 : Cond.fieldLinkNest RX9 29 (TX8 5).1 (TX8 5).2.1 (TX8 5).2.2.1 "JawBench" ∈ ck_N := ck_inNc1 (i := 102) rfl rfl
theorem fl_X8_40 : Cond.fieldLink RX8 40 (TX8 5).1 (TX8 5).2.1 (TX8 5).2.2.1 ∈ ck_T := ck_inc1 (i := 103) rfl rfl
theorem fl_X3_75 : Cond.fieldLinkNest RX3 75 (TX8 6).1 (TX8 6).2.1 (TX8 6).2.2.1 "JawBench" ∈ ck_N := ck_inNc1 (i := 104) rfl rfl
theorem fl_X8_59 : Cond.fieldLink RX8 59 (TX8 6).1 (TX8 6).2.1 (TX8 6).2.2.1 ∈ ck_T := ck_inc1 (i := 105) rfl rfl
theorem fl_X9_178 : Cond.fieldLinkNest RX9 178 (TX8 6).1 (TX8 6).2.1 (TX8 6).2.2.1 "JawBench" ∈ ck_N := ck_inNc1 (i := 106) rfl rfl
theorem fl_X8_56 : Cond.fieldLink RX8 56 (TX8 7).1 (TX8 7).2.1 (TX8 7).2.2.1 ∈ ck_T := ck_inc1 (i := 107) rfl rfl
theorem fl_X9_171 : Cond.fieldLinkNest RX9 171 (TX8 7).1 (TX8 7).2.1 (TX8 7).2.2.1 "JawBench" ∈ ck_N := ck_inNc1 (i := 108) rfl rfl
theorem fl_X3_15 : Cond.fieldLink RX3 15 (TX3 0).1 (TX3 0).2.1 (TX3 0).2.2.1 ∈ ck_T := ck_inc1 (i := 134) rfl rfl
theorem fl_X3_9 : Cond.fieldLink RX3 9 (TX3 1).1 (TX3 1).2.1 (TX3 1).2.2.1 ∈ ck_T := ck_inc1 (i := 135) rfl rfl
theorem fl_X3_19 : Cond.fieldLink RX3 19 (TX3 2).1 (TX3 2).2.1 (TX3 2).2.2.1 ∈ ck_T := ck_inc1 (i := 136) rfl rfl
theorem fl_X3_23 : Cond.fieldLink RX3 23 (TX3 3).1 (TX3 3).2.1 (TX3 3).2.2.1 ∈ ck_T := ck_inc1 (i := 137) rfl rfl
theorem fl_X3_31 : Cond.fieldLink RX3 31 (TX3 4).1 (TX3 4).2.1 (TX3 4).2.2.1 ∈ ck_T := ck_inc1 (i := 138) rfl rfl
theorem fl_X3_34 : Cond.fieldLink RX3 34 (TX3 5).1 (TX3 5).2.1 (TX3 5).2.2.1 ∈ ck_T := ck_inc1 (i := 139) rfl rfl
theorem fl_X9_14 : Cond.fieldLink RX9 14 (TX9 0).1 (TX9 0).2.1 (TX9 0).2.2.1 ∈ ck_T := ck_inc1 (i := 153) rfl rfl
theorem fl_X9_25 : Cond.fieldLink RX9 25 (TX9 1).1 (TX9 1).2.1 (TX9 1).2.2.1 ∈ ck_T := ck_inc1 (i := 154) rfl rfl
theorem fl_X9_38 : Cond.fieldLink RX9 38 (TX9 2).1 (TX9 2).2.1 (TX9 2).2.2.1 ∈ ck_T := ck_inc1 (i := 155) rfl rfl
theorem fl_X1_9 : Cond.fieldLink RX1 9 (TX1 0).1 (TX1 0).2.1 (TX1 0).2.2.1 ∈ ck_T := ck_inc1 (i := 169) rfl rfl
theorem fl_X10_96 : Cond.fieldLinkNest RX10 96 (TX1 0).1 (TX1 0).2.1 (TX1 0).2.2.1 "JawBench" ∈ ck_N := ck_inNc1 (i := 170) rfl rfl
theorem fl_X11_174 : Cond.fieldLinkNest RX11 174 (TX1 0).1 (TX1 0).2.1 (TX1 0).2.2.1 "JawBench" ∈ ck_N := ck_inNc1 (i := 171) rfl rfl
theorem fl_X1_15 : Cond.fieldLink RX1 15 (TX1 1).1 (TX1 1).2.1 (TX1 1).2.2.1 ∈ ck_T := ck_inc1 (i := 172) rfl rfl
theorem fl_X10_86 : Cond.fieldLinkNest RX10 86 (TX1 1).1 (TX1 1).2.1 (TX1 1).2.2.1 "JawBench" ∈ ck_N := ck_inNc1 (i := 173) rfl rfl
theorem fl_X2_34 : Cond.fieldLinkNest RX2 34 (TX1 1).1 (TX1 1).2.1 (TX1 1).2.2.1 "JawBench" ∈ ck_N := ck_inNc1 (i := 174) rfl rfl
theorem fl_X0_87 : Cond.fieldLinkNest RX0 87 (TX1 1).1 (TX1 1).2.1 (TX1 1).2.2.1 "JawBench" ∈ ck_N := ck_inNc1 (i := 175) rfl rfl
theorem fl_X11_143 : Cond.fieldLinkNest RX11 143 (TX1 1).1 (TX1 1).2.1 (TX1 1).2.2.1 "JawBench" ∈ ck_N := ck_inNc1 (i := 176) rfl rfl
theorem fl_X1_18 : Cond.fieldLink RX1 18 (TX1 2).1 (TX1 2).2.1 (TX1 2).2.2.1 ∈ ck_T := ck_inc1 (i := 177) rfl rfl
theorem fl_X10_73 : Cond.fieldLinkNest RX10 73 (TX1 2).1 (TX1 2).2.1 (TX1 2).2.2.1 "JawBench" ∈ ck_N := ck_inNc1 (i := 178) rfl rfl
theorem fl_X2_42 : Cond.fieldLinkNest RX2 42 (TX1 2).1 (TX1 2).2.1 (TX1 2).2.2.1 "JawBench" ∈ ck_N := ck_inNc1 (i := 179) rfl rfl
theorem fl_X0_104 : Cond.fieldLinkNest RX0 104 (TX1 2).1 (TX1 2).2.1 (TX1 2).2.2.1 "JawBench" ∈ ck_N := ck_inNc1 (i := 180) rfl rfl
theorem fl_X11_150 : Cond.fieldLinkNest RX11 150 (TX1 2).1 (TX1 2).2.1 (TX1 2).2.2.1 "JawBench" ∈ ck_N := ck_inNc1 (i := 181) rfl rfl
theorem fl_X1_21 : Cond.fieldLink RX1 21 (TX1 3).1 (TX1 3).2.1 (TX1 3).2.2.1 ∈ ck_T := ck_inc1 (i := 182) rfl rfl
theorem fl_X10_83 : Cond.fieldLinkNest RX10 83 (TX1 3).1 (TX1 3).2.1 (TX1 3).2.2.1 "JawBench" ∈ ck_N := ck_inNc1 (i := 183) rfl rfl
theorem fl_X0_78 : Cond.fieldLinkNest RX0 78 (TX1 3).1 (TX1 3).2.1 (TX1 3).2.2.1 "JawBench" ∈ ck_N := ck_inNc1 (i := 184) rfl rfl
theorem fl_X6_39 : Cond.fieldLinkNest RX6 39 (TX1 3).1 (TX1 3).2.1 (TX1 3).2.2.1 "JawBench" ∈ ck_N := ck_inNc1 (i := 185) rfl rfl
theorem fl_X11_156 : Cond.fieldLinkNest RX11 156 (TX1 3).1 (TX1 3).2.1 (TX1 3).2.2.1 "JawBench" ∈ ck_N := ck_inNc1 (i := 186) rfl rfl
theorem fl_X1_24 : Cond.fieldLink RX1 24 (TX1 4).1 (TX1 4).2.1 (TX1 4).2.2.1 ∈ ck_T := ck_inc1 (i := 187) rfl rfl
theorem fl_X2_39 : Cond.fieldLinkNest RX2 39 (TX1 4).1 (TX1 4).2.1 (TX1 4).2.2.1 "JawBench" ∈ ck_N := ck_inNc1 (i := 188) rfl rfl
theorem fl_X0_138 : Cond.fieldLinkNest RX0 138 (TX1 4).1 (TX1 4).2.1 (TX1 4).2.2.1 "JawBench" ∈ ck_N := ck_inNc1 (i := 189) rfl rfl
theorem fl_X11_228 : Cond.fieldLinkNest RX11 228 (TX1 4).1 (TX1 4).2.1 (TX1 4).2.2.1 "JawBench" ∈ ck_N := ck_inNc1 (i := 190) rfl rfl
theorem fl_X1_28 : Cond.fieldLink RX1 28 (TX1 5).1 (TX1 5).2.1 (TX1 5).2.2.1 ∈ ck_T := ck_inc1 (i := 191) rfl rfl
theorem fl_X10_51 : Cond.fieldLinkNest RX10 51 (TX1 5).1 (TX1 5).2.1 (TX1 5).2.2.1 "JawBench" ∈ ck_N := ck_inNc1 (i := 192) rfl rfl
theorem fl_X0_97 : Cond.fieldLinkNest RX0 97 (TX1 5).1 (TX1 5).2.1 (TX1 5).2.2.1 "JawBench" ∈ ck_N := ck_inNc1 (i := 193) rfl rfl
theorem fl_X11_231 : Cond.fieldLinkNest RX11 231 (TX1 5).1 (TX1 5).2.1 (TX1 5).2.2.1 "JawBench" ∈ ck_N := ck_inNc1 (i := 194) rfl rfl
theorem fl_X1_36 : Cond.fieldLink RX1 36 (TX1 6).1 (TX1 6).2.1 (TX1 6).2.2.1 ∈ ck_T := ck_inc1 (i := 195) rfl rfl
theorem fl_X0_55 : Cond.fieldLinkNest RX0 55 (TX1 6).1 (TX1 6).2.1 (TX1 6).2.2.1 "JawBench" ∈ ck_N := ck_inNc1 (i := 196) rfl rfl
theorem fl_X2_45 : Cond.fieldLinkNest RX2 45 (TX1 6).1 (TX1 6).2.1 (TX1 6).2.2.1 "JawBench" ∈ ck_N := ck_inNc1 (i := 197) rfl rfl
theorem fl_X10_92 : Cond.fieldLinkNest RX10 92 (TX1 6).1 (TX1 6).2.1 (TX1 6).2.2.1 "JawBench" ∈ ck_N := ck_inNc1 (i := 198) rfl rfl
theorem fl_X11_234 : Cond.fieldLinkNest RX11 234 (TX1 6).1 (TX1 6).2.1 (TX1 6).2.2.1 "JawBench" ∈ ck_N := ck_inNc1 (i := 199) rfl rfl
theorem fl_X1_37 : Cond.fieldLink RX1 37 (TX1 7).1 (TX1 7).2.1 (TX1 7).2.2.1 ∈ ck_T := ck_inc1 (i := 200) rfl rfl
theorem fl_X10_126 : Cond.fieldLinkNest RX10 126 (TX1 7).1 (TX1 7).2.1 (TX1 7).2.2.1 "JawBench" ∈ ck_N := ck_inNc1 (i := 201) rfl rfl
theorem fl_X11_299 : Cond.fieldLinkNest RX11 299 (TX1 7).1 (TX1 7).2.1 (TX1 7).2.2.1 "JawBench" ∈ ck_N := ck_inNc1 (i := 202) rfl rfl
theorem fl_X6_9 : Cond.fieldLink RX6 9 (TX6 0).1 (TX6 0).2.1 (TX6 0).2.2.1 ∈ ck_T := ck_inc1 (i := 226) rfl rfl
theorem fl_X6_15 : Cond.fieldLink RX6 15 (TX6 1).1 (TX6 1).2.1 (TX6 1).2.2.1 ∈ ck_T := ck_inc1 (i := 227) rfl rfl
theorem fl_X6_18 : Cond.fieldLink RX6 18 (TX6 2).1 (TX6 2).2.1 (TX6 2).2.2.1 ∈ ck_T := ck_inc1 (i := 228) rfl rfl
theorem fl_X6_22 : Cond.fieldLink RX6 22 (TX6 3).1 (TX6 3).2.1 (TX6 3).2.2.1 ∈ ck_T := ck_inc1 (i := 229) rfl rfl
theorem fl_X6_25 : Cond.fieldLink RX6 25 (TX6 4).1 (TX6 4).2.1 (TX6 4).2.2.1 ∈ ck_T := ck_inc1 (i := 230) rfl rfl
theorem fl_X6_32 : Cond.fieldLink RX6 32 (TX6 5).1 (TX6 5).2.1 (TX6 5).2.2.1 ∈ ck_T := ck_inc1 (i := 231) rfl rfl
theorem fl_X11_305 : Cond.fieldLinkNest RX11 305 (TX6 5).1 (TX6 5).2.1 (TX6 5).2.2.1 "JawBench" ∈ ck_N := ck_inNc1 (i := 232) rfl rfl
theorem fl_X6_28 : Cond.fieldLink RX6 28 (TX6 6).1 (TX6 6).2.1 (TX6 6).2.2.1 ∈ ck_T := ck_inc1 (i := 233) rfl rfl
theorem fl_X11_306 : Cond.fieldLinkNest RX11 306 (TX6 6).1 (TX6 6).2.1 (TX6 6).2.2.1 "JawBench" ∈ ck_N := ck_inNc1 (i := 234) rfl rfl
theorem fl_X2_9 : Cond.fieldLink RX2 9 (TX2 0).1 (TX2 0).2.1 (TX2 0).2.2.1 ∈ ck_T := ck_inc2 (i := 17) rfl rfl
theorem fl_X2_15 : Cond.fieldLink RX2 15 (TX2 1).1 (TX2 1).2.1 (TX2 1).2.2.1 ∈ ck_T := ck_inc2 (i := 18) rfl rfl
theorem fl_X2_18 : Cond.fieldLink RX2 18 (TX2 2).1 (TX2 2).2.1 (TX2 2).2.2.1 ∈ ck_T := ck_inc2 (i := 19) rfl rfl
theorem fl_X2_21 : Cond.fieldLink RX2 21 (TX2 3).1 (TX2 3).2.1 (TX2 3).2.2.1 ∈ ck_T := ck_inc2 (i := 20) rfl rfl
theorem fl_X11_342 : Cond.fieldLinkNest RX11 342 (TX2 3).1 (TX2 3).2.1 (TX2 3).2.2.1 "JawBench" ∈ ck_N := ck_inNc2 (i := 21) rfl rfl
theorem fl_X5_9 : Cond.fieldLink RX5 9 (TX5 0).1 (TX5 0).2.1 (TX5 0).2.2.1 ∈ ck_T := ck_inc2 (i := 43) rfl rfl
theorem fl_X5_15 : Cond.fieldLink RX5 15 (TX5 1).1 (TX5 1).2.1 (TX5 1).2.2.1 ∈ ck_T := ck_inc2 (i := 44) rfl rfl
theorem fl_X7_62 : Cond.fieldLinkNest RX7 62 (TX5 1).1 (TX5 1).2.1 (TX5 1).2.2.1 "JawBench" ∈ ck_N := ck_inNc2 (i := 45) rfl rfl
theorem fl_X10_68 : Cond.fieldLinkNest RX10 68 (TX5 1).1 (TX5 1).2.1 (TX5 1).2.2.1 "JawBench" ∈ ck_N := ck_inNc2 (i := 46) rfl rfl
theorem fl_X9_83 : Cond.fieldLinkNest RX9 83 (TX5 1).1 (TX5 1).2.1 (TX5 1).2.2.1 "JawBench" ∈ ck_N := ck_inNc2 (i := 47) rfl rfl
theorem fl_X0_68 : Cond.fieldLinkNest RX0 68 (TX5 1).1 (TX5 1).2.1 (TX5 1).2.2.1 "JawBench" ∈ ck_N := ck_inNc2 (i := 48) rfl rfl
theorem fl_X11_257 : Cond.fieldLinkNest RX11 257 (TX5 1).1 (TX5 1).2.1 (TX5 1).2.2.1 "JawBench" ∈ ck_N := ck_inNc2 (i := 49) rfl rfl
theorem fl_X4_9 : Cond.fieldLink RX4 9 (TX4 0).1 (TX4 0).2.1 (TX4 0).2.2.1 ∈ ck_T := ck_inc2 (i := 61) rfl rfl
theorem fl_X4_15 : Cond.fieldLink RX4 15 (TX4 1).1 (TX4 1).2.1 (TX4 1).2.2.1 ∈ ck_T := ck_inc2 (i := 62) rfl rfl
theorem fl_X4_18 : Cond.fieldLink RX4 18 (TX4 2).1 (TX4 2).2.1 (TX4 2).2.2.1 ∈ ck_T := ck_inc2 (i := 63) rfl rfl
theorem fl_X3_38 : Cond.fieldLinkNest RX3 38 (TX4 2).1 (TX4 2).2.1 (TX4 2).2.2.1 "JawBench" ∈ ck_N := ck_inNc2 (i := 64) rfl rfl
theorem fl_X4_21 : Cond.fieldLink RX4 21 (TX4 3).1 (TX4 3).2.1 (TX4 3).2.2.1 ∈ ck_T := ck_inc2 (i := 65) rfl rfl
theorem fl_X3_65 : Cond.fieldLinkNest RX3 65 (TX4 3).1 (TX4 3).2.1 (TX4 3).2.2.1 "JawBench" ∈ ck_N := ck_inNc2 (i := 66) rfl rfl
theorem fl_X4_24 : Cond.fieldLink RX4 24 (TX4 4).1 (TX4 4).2.1 (TX4 4).2.2.1 ∈ ck_T := ck_inc2 (i := 67) rfl rfl
theorem fl_X4_28 : Cond.fieldLink RX4 28 (TX4 5).1 (TX4 5).2.1 (TX4 5).2.2.1 ∈ ck_T := ck_inc2 (i := 68) rfl rfl
theorem fl_X3_26 : Cond.fieldLinkNest RX3 26 (TX4 5).1 (TX4 5).2.1 (TX4 5).2.2.1 "JawBench" ∈ ck_N := ck_inNc2 (i := 69) rfl rfl
theorem fl_X11_346 : Cond.fieldLinkNest RX11 346 (TX4 5).1 (TX4 5).2.1 (TX4 5).2.2.1 "JawBench" ∈ ck_N := ck_inNc2 (i := 70) rfl rfl
theorem fl_X7_14 : Cond.fieldLink RX7 14 (TX7 0).1 (TX7 0).2.1 (TX7 0).2.2.1 ∈ ck_T := ck_inc2 (i := 85) rfl rfl
theorem fl_X9_79 : Cond.fieldLinkNest RX9 79 (TX7 0).1 (TX7 0).2.1 (TX7 0).2.2.1 "JawBench" ∈ ck_N := ck_inNc2 (i := 86) rfl rfl
theorem fl_X0_62 : Cond.fieldLinkNest RX0 62 (TX7 0).1 (TX7 0).2.1 (TX7 0).2.2.1 "JawBench" ∈ ck_N := ck_inNc2 (i := 87) rfl rfl
theorem fl_X11_116 : Cond.fieldLinkNest RX11 116 (TX7 0).1 (TX7 0).2.1 (TX7 0).2.2.1 "JawBench" ∈ ck_N := ck_inNc2 (i := 88) rfl rfl
theorem fl_X7_20 : Cond.fieldLink RX7 20 (TX7 1).1 (TX7 1).2.1 (TX7 1).2.2.1 ∈ ck_T := ck_inc2 (i := 89) rfl rfl
theorem fl_X9_106 : Cond.fieldLinkNest RX9 106 (TX7 1).1 (TX7 1).2.1 (TX7 1).2.2.1 "JawBench" ∈ ck_N := ck_inNc2 (i := 90) rfl rfl
theorem fl_X11_171 : Cond.fieldLinkNest RX11 171 (TX7 1).1 (TX7 1).2.1 (TX7 1).2.2.1 "JawBench" ∈ ck_N := ck_inNc2 (i := 91) rfl rfl
theorem fl_X10_148 : Cond.fieldLinkNest RX10 148 (TX7 1).1 (TX7 1).2.1 (TX7 1).2.2.1 "JawBench" ∈ ck_N := ck_inNc2 (i := 92) rfl rfl
theorem fl_X7_24 : Cond.fieldLink RX7 24 (TX7 2).1 (TX7 2).2.1 (TX7 2).2.2.1 ∈ ck_T := ck_inc2 (i := 93) rfl rfl
theorem fl_X1_40 : Cond.fieldLinkNest RX1 40 (TX7 2).1 (TX7 2).2.1 (TX7 2).2.2.1 "JawBench" ∈ ck_N := ck_inNc2 (i := 94) rfl rfl
theorem fl_X9_110 : Cond.fieldLinkNest RX9 110 (TX7 2).1 (TX7 2).2.1 (TX7 2).2.2.1 "JawBench" ∈ ck_N := ck_inNc2 (i := 95) rfl rfl
theorem fl_X10_93 : Cond.fieldLinkNest RX10 93 (TX7 2).1 (TX7 2).2.1 (TX7 2).2.2.1 "JawBench" ∈ ck_N := ck_inNc2 (i := 96) rfl rfl
theorem fl_X7_27 : Cond.fieldLink RX7 27 (TX7 3).1 (TX7 3).2.1 (TX7 3).2.2.1 ∈ ck_T := ck_inc2 (i := 97) rfl rfl
theorem fl_X11_126 : Cond.fieldLinkNest RX11 126 (TX7 3).1 (TX7 3).2.1 (TX7 3).2.2.1 "JawBench" ∈ ck_N := ck_inNc2 (i := 98) rfl rfl
theorem fl_X9_113 : Cond.fieldLinkNest RX9 113 (TX7 3).1 (TX7 3).2.1 (TX7 3).2.2.1 "JawBench" ∈ ck_N := ck_inNc2 (i := 99) rfl rfl
theorem fl_X7_30 : Cond.fieldLink RX7 30 (TX7 4).1 (TX7 4).2.1 (TX7 4).2.2.1 ∈ ck_T := ck_inc2 (i := 100) rfl rfl
theorem fl_X9_116 : Cond.fieldLinkNest RX9 116 (TX7 4).1 (TX7 4).2.1 (TX7 4).2.2.1 "JawBench" ∈ ck_N := ck_inNc2 (i := 101) rfl rfl
theorem fl_X11_186 : Cond.fieldLinkNest RX11 186 (TX7 4).1 (TX7 4).2.1 (TX7 4).2.2.1 "JawBench" ∈ ck_N := ck_inNc2 (i := 102) rfl rfl
theorem fl_X10_129 : Cond.fieldLinkNest RX10 129 (TX7 4).1 (TX7 4).2.1 (TX7 4).2.2.1 "JawBench" ∈ ck_N := ck_inNc2 (i := 103) rfl rfl
theorem fl_X7_33 : Cond.fieldLink RX7 33 (TX7 5).1 (TX7 5).2.1 (TX7 5).2.2.1 ∈ ck_T := ck_inc2 (i := 104) rfl rfl
theorem fl_X9_119 : Cond.fieldLinkNest RX9 119 (TX7 5).1 (TX7 5).2.1 (TX7 5).2.2.1 "JawBench" ∈ ck_N := ck_inNc2 (i := 105) rfl rfl
theorem fl_X11_189 : Cond.fieldLinkNest RX11 189 (TX7 5).1 (TX7 5).2.1 (TX7 5).2.2.1 "JawBench" ∈ ck_N := ck_inNc2 (i := 106) rfl rfl
theorem fl_X10_170 : Cond.fieldLinkNest RX10 170 (TX7 5).1 (TX7 5).2.1 (TX7 5).2.2.1 "JawBench" ∈ ck_N := ck_inNc2 (i := 107) rfl rfl
theorem fl_X7_36 : Cond.fieldLink RX7 36 (TX7 6).1 (TX7 6).2.1 (TX7 6).2.2.1 ∈ ck_T := ck_inc2 (i := 108) rfl rfl
theorem fl_X9_122 : Cond.fieldLinkNest RX9 122 (TX7 6).1 (TX7 6).2.1 (TX7 6).2.2.1 "JawBench" ∈ ck_N := ck_inNc2 (i := 109) rfl rfl
theorem fl_X11_192 : Cond.fieldLinkNest RX11 192 (TX7 6).1 (TX7 6).2.1 (TX7 6).2.2.1 "JawBench" ∈ ck_N := ck_inNc2 (i := 110) rfl rfl
theorem fl_X10_151 : Cond.fieldLinkNest RX10 151 (TX7 6).1 (TX7 6).2.1 (TX7 6).2.2.1 "JawBench" ∈ ck_N := ck_inNc2 (i := 111) rfl rfl
theorem fl_X7_39 : Cond.fieldLink RX7 39 (TX7 7).1 (TX7 7).2.1 (TX7 7).2.2.1 ∈ ck_T := ck_inc2 (i := 112) rfl rfl
theorem fl_X10_64 : Cond.fieldLinkNest RX10 64 (TX7 7).1 (TX7 7).2.1 (TX7 7).2.2.1 "JawBench" ∈ ck_N := ck_inNc2 (i := 113) rfl rfl
theorem fl_X0_76 : Cond.fieldLinkNest RX0 76 (TX7 7).1 (TX7 7).2.1 (TX7 7).2.2.1 "JawBench" ∈ ck_N := ck_inNc2 (i := 114) rfl rfl
theorem fl_X11_129 : Cond.fieldLinkNest RX11 129 (TX7 7).1 (TX7 7).2.1 (TX7 7).2.2.1 "JawBench" ∈ ck_N := ck_inNc2 (i := 115) rfl rfl
theorem fl_X9_125 : Cond.fieldLinkNest RX9 125 (TX7 7).1 (TX7 7).2.1 (TX7 7).2.2.1 "JawBench" ∈ ck_N := ck_inNc2 (i := 116) rfl rfl
theorem fl_X7_42 : Cond.fieldLink RX7 42 (TX7 8).1 (TX7 8).2.1 (TX7 8).2.2.1 ∈ ck_T := ck_inc2 (i := 117) rfl rfl
theorem fl_X1_47 : Cond.fieldLinkNest RX1 47 (TX7 8).1 (TX7 8).2.1 (TX7 8).2.2.1 "JawBench" ∈ ck_N := ck_inNc2 (i := 118) rfl rfl
theorem fl_X9_131 : Cond.fieldLinkNest RX9 131 (TX7 8).1 (TX7 8).2.1 (TX7 8).2.2.1 "JawBench" ∈ ck_N := ck_inNc2 (i := 119) rfl rfl
theorem fl_X7_45 : Cond.fieldLink RX7 45 (TX7 9).1 (TX7 9).2.1 (TX7 9).2.2.1 ∈ ck_T := ck_inc2 (i := 120) rfl rfl
theorem fl_X11_147 : Cond.fieldLinkNest RX11 147 (TX7 9).1 (TX7 9).2.1 (TX7 9).2.2.1 "JawBench" ∈ ck_N := ck_inNc2 (i := 121) rfl rfl
theorem fl_X9_134 : Cond.fieldLinkNest RX9 134 (TX7 9).1 (TX7 9).2.1 (TX7 9).2.2.1 "JawBench" ∈ ck_N := ck_inNc2 (i := 122) rfl rfl
theorem fl_X10_110 : Cond.fieldLinkNest RX10 110 (TX7 9).1 (TX7 9).2.1 (TX7 9).2.2.1 "JawBench" ∈ ck_N := ck_inNc2 (i := 123) rfl rfl
theorem fl_X7_48 : Cond.fieldLink RX7 48 (TX7 10).1 (TX7 10).2.1 (TX7 10).2.2.1 ∈ ck_T := ck_inc2 (i := 124) rfl rfl
theorem fl_X1_48 : Cond.fieldLinkNest RX1 48 (TX7 10).1 (TX7 10).2.1 (TX7 10).2.2.1 "JawBench" ∈ ck_N := ck_inNc2 (i := 125) rfl rfl
theorem fl_X9_137 : Cond.fieldLinkNest RX9 137 (TX7 10).1 (TX7 10).2.1 (TX7 10).2.2.1 "JawBench" ∈ ck_N := ck_inNc2 (i := 126) rfl rfl
theorem fl_X7_54 : Cond.fieldLink RX7 54 (TX7 11).1 (TX7 11).2.1 (TX7 11).2.2.1 ∈ ck_T := ck_inc2 (i := 127) rfl rfl
theorem fl_X9_157 : Cond.fieldLinkNest RX9 157 (TX7 11).1 (TX7 11).2.1 (TX7 11).2.2.1 "JawBench" ∈ ck_N := ck_inNc2 (i := 128) rfl rfl
theorem fl_X10_154 : Cond.fieldLinkNest RX10 154 (TX7 11).1 (TX7 11).2.1 (TX7 11).2.2.1 "JawBench" ∈ ck_N := ck_inNc2 (i := 129) rfl rfl
theorem fl_X11_207 : Cond.fieldLinkNest RX11 207 (TX7 11).1 (TX7 11).2.1 (TX7 11).2.2.1 "JawBench" ∈ ck_N := ck_inNc2 (i := 130) rfl rfl
theorem fl_X7_58 : Cond.fieldLink RX7 58 (TX7 12).1 (TX7 12).2.1 (TX7 12).2.2.1 ∈ ck_T := ck_inc2 (i := 131) rfl rfl
theorem fl_X10_23 : Cond.fieldLinkNest RX10 23 (TX7 12).1 (TX7 12).2.1 (TX7 12).2.2.1 "JawBench" ∈ ck_N := ck_inNc2 (i := 132) rfl rfl
theorem fl_X1_31 : Cond.fieldLinkNest RX1 31 (TX7 12).1 (TX7 12).2.1 (TX7 12).2.2.1 "JawBench" ∈ ck_N := ck_inNc2 (i := 133) rfl rfl
theorem fl_X9_144 : Cond.fieldLinkNest RX9 144 (TX7 12).1 (TX7 12).2.1 (TX7 12).2.2.1 "JawBench" ∈ ck_N := ck_inNc2 (i := 134) rfl rfl
theorem fl_X7_68 : Cond.fieldLink RX7 68 (TX7 13).1 (TX7 13).2.1 (TX7 13).2.2.1 ∈ ck_T := ck_inc2 (i := 135) rfl rfl
theorem fl_X10_89 : Cond.fieldLinkNest RX10 89 (TX7 13).1 (TX7 13).2.1 (TX7 13).2.2.1 "JawBench" ∈ ck_N := ck_inNc2 (i := 136) rfl rfl
theorem fl_X9_150 : Cond.fieldLinkNest RX9 150 (TX7 13).1 (TX7 13).2.1 (TX7 13).2.2.1 "JawBench" ∈ ck_N := ck_inNc2 (i := 137) rfl rfl
theorem fl_X7_71 : Cond.fieldLink RX7 71 (TX7 14).1 (TX7 14).2.1 (TX7 14).2.2.1 ∈ ck_T := ck_inc2 (i := 138) rfl rfl
theorem fl_X9_140 : Cond.fieldLinkNest RX9 140 (TX7 14).1 (TX7 14).2.1 (TX7 14).2.2.1 "JawBench" ∈ ck_N := ck_inNc2 (i := 139) rfl rfl
theorem fl_X7_75 : Cond.fieldLink RX7 75 (TX7 15).1 (TX7 15).2.1 (TX7 15).2.2.1 ∈ ck_T := ck_inc2 (i := 140) rfl rfl
theorem fl_X9_147 : Cond.fieldLinkNest RX9 147 (TX7 15).1 (TX7 15).2.1 (TX7 15).2.2.1 "JawBench" ∈ ck_N := ck_inNc2 (i := 141) rfl rfl
theorem fl_X7_78 : Cond.fieldLink RX7 78 (TX7 16).1 (TX7 16).2.1 (TX7 16).2.2.1 ∈ ck_T := ck_inc2 (i := 142) rfl rfl
theorem fl_X9_153 : Cond.fieldLinkNest RX9 153 (TX7 16).1 (TX7 16).2.1 (TX7 16).2.2.1 "JawBench" ∈ ck_N := ck_inNc2 (i := 143) rfl rfl
theorem fl_X7_81 : Cond.fieldLink RX7 81 (TX7 17).1 (TX7 17).2.1 (TX7 17).2.2.1 ∈ ck_T := ck_inc2 (i := 144) rfl rfl
theorem fl_X9_52 : Cond.fieldLinkNest RX9 52 (TX7 17).1 (TX7 17).2.1 (TX7 17).2.2.1 "JawBench" ∈ ck_N := ck_inNc2 (i := 145) rfl rfl
theorem fl_X11_113 : Cond.fieldLinkNest RX11 113 (TX7 17).1 (TX7 17).2.1 (TX7 17).2.2.1 "JawBench" ∈ ck_N := ck_inNc2 (i := 146) rfl rfl
theorem fl_X10_9 : Cond.fieldLink RX10 9 (TX10 0).1 (TX10 0).2.1 (TX10 0).2.2.1 ∈ ck_T := ck_inc2 (i := 190) rfl rfl
theorem fl_X11_211 : Cond.fieldLinkNest RX11 211 (TX10 0).1 (TX10 0).2.1 (TX10 0).2.2.1 "JawBench" ∈ ck_N := ck_inNc2 (i := 191) rfl rfl
theorem fl_X10_15 : Cond.fieldLink RX10 15 (TX10 1).1 (TX10 1).2.1 (TX10 1).2.2.1 ∈ ck_T := ck_inc2 (i := 192) rfl rfl
theorem fl_X10_19 : Cond.fieldLink RX10 19 (TX10 2).1 (TX10 2).2.1 (TX10 2).2.2.1 ∈ ck_T := ck_inc2 (i := 193) rfl rfl
theorem fl_X0_47 : Cond.fieldLinkNest RX0 47 (TX10 2).1 (TX10 2).2.1 (TX10 2).2.2.1 "JawBench" ∈ ck_N := ck_inNc2 (i := 194) rfl rfl
theorem fl_X11_104 : Cond.fieldLinkNest RX11 104 (TX10 2).1 (TX10 2).2.1 (TX10 2).2.2.1 "JawBench" ∈ ck_N := ck_inNc2 (i := 195) rfl rfl
theorem fl_X10_120 : Cond.fieldLink RX10 120 (TX10 3).1 (TX10 3).2.1 (TX10 3).2.2.1 ∈ ck_T := ck_inc2 (i := 196) rfl rfl
theorem fl_X11_199 : Cond.fieldLinkNest RX11 199 (TX10 3).1 (TX10 3).2.1 (TX10 3).2.2.1 "JawBench" ∈ ck_N := ck_inNc2 (i := 197) rfl rfl
theorem fl_X10_123 : Cond.fieldLink RX10 123 (TX10 4).1 (TX10 4).2.1 (TX10 4).2.2.1 ∈ ck_T := ck_inc2 (i := 198) rfl rfl
theorem fl_X11_202 : Cond.fieldLinkNest RX11 202 (TX10 4).1 (TX10 4).2.1 (TX10 4).2.2.1 "JawBench" ∈ ck_N := ck_inNc2 (i := 199) rfl rfl
theorem fl_X10_29 : Cond.fieldLink RX10 29 (TX10 5).1 (TX10 5).2.1 (TX10 5).2.2.1 ∈ ck_T := ck_inc2 (i := 200) rfl rfl
theorem fl_X0_43 : Cond.fieldLinkNest RX0 43 (TX10 5).1 (TX10 5).2.1 (TX10 5).2.2.1 "JawBench" ∈ ck_N := ck_inNc2 (i := 201) rfl rfl
theorem fl_X10_32 : Cond.fieldLink RX10 32 (TX10 6).1 (TX10 6).2.1 (TX10 6).2.2.1 ∈ ck_T := ck_inc2 (i := 202) rfl rfl
theorem fl_X11_330 : Cond.fieldLinkNest RX11 330 (TX10 6).1 (TX10 6).2.1 (TX10 6).2.2.1 "JawBench" ∈ ck_N := ck_inNc2 (i := 203) rfl rfl
theorem fl_X10_36 : Cond.fieldLink RX10 36 (TX10 7).1 (TX10 7).2.1 (TX10 7).2.2.1 ∈ ck_T := ck_inc2 (i := 204) rfl rfl
theorem fl_X11_339 : Cond.fieldLinkNest RX11 339 (TX10 7).1 (TX10 7).2.1 (TX10 7).2.2.1 "JawBench" ∈ ck_N := ck_inNc2 (i := 205) rfl rfl
theorem fl_X10_39 : Cond.fieldLink RX10 39 (TX10 8).1 (TX10 8).2.1 (TX10 8).2.2.1 ∈ ck_T := ck_inc2 (i := 206) rfl rfl
theorem fl_X11_336 : Cond.fieldLinkNest RX11 336 (TX10 8).1 (TX10 8).2.1 (TX10 8).2.2.1 "JawBench" ∈ ck_N := ck_inNc2 (i := 207) rfl rfl
theorem fl_X10_42 : Cond.fieldLink RX10 42 (TX10 9).1 (TX10 9).2.1 (TX10 9).2.2.1 ∈ ck_T := ck_inc2 (i := 208) rfl rfl
theorem fl_X11_333 : Cond.fieldLinkNest RX11 333 (TX10 9).1 (TX10 9).2.1 (TX10 9).2.2.1 "JawBench" ∈ ck_N := ck_inNc2 (i := 209) rfl rfl
theorem fl_X10_45 : Cond.fieldLink RX10 45 (TX10 10).1 (TX10 10).2.1 (TX10 10).2.2.1 ∈ ck_T := ck_inc2 (i := 210) rfl rfl
theorem fl_X11_319 : Cond.fieldLinkNest RX11 319 (TX10 10).1 (TX10 10).2.1 (TX10 10).2.2.1 "JawBench" ∈ ck_N := ck_inNc2 (i := 211) rfl rfl
theorem fl_X10_136 : Cond.fieldLink RX10 136 (TX10 11).1 (TX10 11).2.1 (TX10 11).2.2.1 ∈ ck_T := ck_inc2 (i := 212) rfl rfl
theorem fl_X11_322 : Cond.fieldLinkNest RX11 322 (TX10 11).1 (TX10 11).2.1 (TX10 11).2.2.1 "JawBench" ∈ ck_N := ck_inNc2 (i := 213) rfl rfl
theorem fl_X0_21 : Cond.fieldLink RX0 21 (TX0 0).1 (TX0 0).2.1 (TX0 0).2.2.1 ∈ ck_T := ck_inc3 (i := 5) rfl rfl
theorem fl_X0_25 : Cond.fieldLink RX0 25 (TX0 1).1 (TX0 1).2.1 (TX0 1).2.2.1 ∈ ck_T := ck_inc3 (i := 6) rfl rfl
theorem fl_X0_29 : Cond.fieldLink RX0 29 (TX0 2).1 (TX0 2).2.1 (TX0 2).2.2.1 ∈ ck_T := ck_inc3 (i := 7) rfl rfl
theorem fl_X0_9 : Cond.fieldLink RX0 9 (TX0 3).1 (TX0 3).2.1 (TX0 3).2.2.1 ∈ ck_T := ck_inc3 (i := 8) rfl rfl
theorem fl_X0_15 : Cond.fieldLink RX0 15 (TX0 4).1 (TX0 4).2.1 (TX0 4).2.2.1 ∈ ck_T := ck_inc3 (i := 9) rfl rfl
theorem fl_X0_18 : Cond.fieldLink RX0 18 (TX0 5).1 (TX0 5).2.1 (TX0 5).2.2.1 ∈ ck_T := ck_inc3 (i := 10) rfl rfl
theorem fl_X11_269 : Cond.fieldLinkNest RX11 269 (TX0 5).1 (TX0 5).2.1 (TX0 5).2.2.1 "JawBench" ∈ ck_N := ck_inNc3 (i := 11) rfl rfl
theorem fl_X0_73 : Cond.fieldLink RX0 73 (TX0 6).1 (TX0 6).2.1 (TX0 6).2.2.1 ∈ ck_T := ck_inc3 (i := 12) rfl rfl
theorem fl_X11_266 : Cond.fieldLinkNest RX11 266 (TX0 6).1 (TX0 6).2.1 (TX0 6).2.2.1 "JawBench" ∈ ck_N := ck_inNc3 (i := 13) rfl rfl
theorem fl_X0_81 : Cond.fieldLink RX0 81 (TX0 7).1 (TX0 7).2.1 (TX0 7).2.2.1 ∈ ck_T := ck_inc3 (i := 14) rfl rfl
theorem fl_X11_263 : Cond.fieldLinkNest RX11 263 (TX0 7).1 (TX0 7).2.1 (TX0 7).2.2.1 "JawBench" ∈ ck_N := ck_inNc3 (i := 15) rfl rfl
theorem fl_X11_11 : Cond.fieldLink RX11 11 (TX11 0).1 (TX11 0).2.1 (TX11 0).2.2.1 ∈ ck_T := ck_inc3 (i := 40) rfl rfl
theorem fl_X11_20 : Cond.fieldLink RX11 20 (TX11 1).1 (TX11 1).2.1 (TX11 1).2.2.1 ∈ ck_T := ck_inc3 (i := 41) rfl rfl
theorem fl_X11_27 : Cond.fieldLink RX11 27 (TX11 2).1 (TX11 2).2.1 (TX11 2).2.2.1 ∈ ck_T := ck_inc3 (i := 42) rfl rfl
theorem fl_X11_31 : Cond.fieldLink RX11 31 (TX11 3).1 (TX11 3).2.1 (TX11 3).2.2.1 ∈ ck_T := ck_inc3 (i := 43) rfl rfl
theorem fl_X11_34 : Cond.fieldLink RX11 34 (TX11 4).1 (TX11 4).2.1 (TX11 4).2.2.1 ∈ ck_T := ck_inc3 (i := 44) rfl rfl
theorem fl_X11_70 : Cond.fieldLink RX11 70 (TX11 5).1 (TX11 5).2.1 (TX11 5).2.2.1 ∈ ck_T := ck_inc3 (i := 45) rfl rfl
theorem fl_X11_79 : Cond.fieldLink RX11 79 (TX11 6).1 (TX11 6).2.1 (TX11 6).2.2.1 ∈ ck_T := ck_inc3 (i := 46) rfl rfl
theorem fl_X11_40 : Cond.fieldLink RX11 40 (TX11 7).1 (TX11 7).2.1 (TX11 7).2.2.1 ∈ ck_T := ck_inc3 (i := 47) rfl rfl
theorem fl_X11_47 : Cond.fieldLink RX11 47 (TX11 8).1 (TX11 8).2.1 (TX11 8).2.2.1 ∈ ck_T := ck_inc3 (i := 48) rfl rfl
theorem fl_X11_54 : Cond.fieldLink RX11 54 (TX11 9).1 (TX11 9).2.1 (TX11 9).2.2.1 ∈ ck_T := ck_inc3 (i := 49) rfl rfl
theorem fl_X11_58 : Cond.fieldLink RX11 58 (TX11 10).1 (TX11 10).2.1 (TX11 10).2.2.1 ∈ ck_T := ck_inc3 (i := 50) rfl rfl
theorem fl_X11_86 : Cond.fieldLink RX11 86 (TX11 11).1 (TX11 11).2.1 (TX11 11).2.2.1 ∈ ck_T := ck_inc3 (i := 51) rfl rfl
theorem fl_X11_97 : Cond.fieldLink RX11 97 (TX11 12).1 (TX11 12).2.1 (TX11 12).2.2.1 ∈ ck_T := ck_inc3 (i := 52) rfl rfl
theorem fl_X11_61 : Cond.fieldLink RX11 61 (TX11 13).1 (TX11 13).2.1 (TX11 13).2.2.1 ∈ ck_T := ck_inc3 (i := 53) rfl rfl
theorem fl_X11_109 : Cond.fieldLink RX11 109 (TX11 14).1 (TX11 14).2.1 (TX11 14).2.2.1 ∈ ck_T := ck_inc3 (i := 54) rfl rfl
theorem fl_X12_145 : Cond.fieldLink RX12 145 (TX12 0).1 (TX12 0).2.1 (TX12 0).2.2.1 ∈ ck_T := ck_inc6 (i := 24) rfl rfl
theorem fl_X12_7 : Cond.fieldLink RX12 7 (TX12 1).1 (TX12 1).2.1 (TX12 1).2.2.1 ∈ ck_T := ck_inc6 (i := 25) rfl rfl
theorem fl_X12_148 : Cond.fieldLink RX12 148 (TX12 2).1 (TX12 2).2.1 (TX12 2).2.2.1 ∈ ck_T := ck_inc6 (i := 26) rfl rfl
theorem fl_X12_13 : Cond.fieldLink RX12 13 (TX12 3).1 (TX12 3).2.1 (TX12 3).2.2.1 ∈ ck_T := ck_inc6 (i := 27) rfl rfl
theorem fl_X12_16 : Cond.fieldLink RX12 16 (TX12 4).1 (TX12 4).2.1 (TX12 4).2.2.1 ∈ ck_T := ck_inc6 (i := 28) rfl rfl
theorem fl_X12_19 : Cond.fieldLink RX12 19 (TX12 5).1 (TX12 5).2.1 (TX12 5).2.2.1 ∈ ck_T := ck_inc6 (i := 29) rfl rfl
theorem fl_X12_22 : Cond.fieldLink RX12 22 (TX12 6).1 (TX12 6).2.1 (TX12 6).2.2.1 ∈ ck_T := ck_inc6 (i := 30) rfl rfl
theorem fl_X12_25 : Cond.fieldLink RX12 25 (TX12 7).1 (TX12 7).2.1 (TX12 7).2.2.1 ∈ ck_T := ck_inc6 (i := 31) rfl rfl
theorem fl_X12_28 : Cond.fieldLink RX12 28 (TX12 8).1 (TX12 8).2.1 (TX12 8).2.2.1 ∈ ck_T := ck_inc6 (i := 32) rfl rfl
theorem fl_X12_31 : Cond.fieldLink RX12 31 (TX12 9).1 (TX12 9).2.1 (TX12 9).2.2.1 ∈ ck_T := ck_inc6 (i := 33) rfl rfl
theorem fl_X12_34 : Cond.fieldLink RX12 34 (TX12 10).1 (TX12 10).2.1 (TX12 10).2.2.1 ∈ ck_T := ck_inc6 (i := 34) rfl rfl
theorem fl_X12_37 : Cond.fieldLink RX12 37 (TX12 11).1 (TX12 11).2.1 (TX12 11).2.2.1 ∈ ck_T := ck_inc6 (i := 35) rfl rfl
theorem fl_X12_40 : Cond.fieldLink RX12 40 (TX12 12).1 (TX12 12).2.1 (TX12 12).2.2.1 ∈ ck_T := ck_inc6 (i := 36) rfl rfl
theorem fl_X12_43 : Cond.fieldLink RX12 43 (TX12 13).1 (TX12 13).2.1 (TX12 13).2.2.1 ∈ ck_T := ck_inc6 (i := 37) rfl rfl
theorem fl_X12_46 : Cond.fieldLink RX12 46 (TX12 14).1 (TX12 14).2.1 (TX12 14).2.2.1 ∈ ck_T := ck_inc6 (i := 38) rfl rfl
theorem fl_X12_49 : Cond.fieldLink RX12 49 (TX12 15).1 (TX12 15).2.1 (TX12 15).2.2.1 ∈ ck_T := ck_inc6 (i := 39) rfl rfl
theorem fl_X12_52 : Cond.fieldLink RX12 52 (TX12 16).1 (TX12 16).2.1 (TX12 16).2.2.1 ∈ ck_T := ck_inc6 (i := 40) rfl rfl
theorem fl_X12_55 : Cond.fieldLink RX12 55 (TX12 17).1 (TX12 17).2.1 (TX12 17).2.2.1 ∈ ck_T := ck_inc6 (i := 41) rfl rfl
theorem fl_X12_58 : Cond.fieldLink RX12 58 (TX12 18).1 (TX12 18).2.1 (TX12 18).2.2.1 ∈ ck_T := ck_inc6 (i := 42) rfl rfl
theorem fl_X12_225 : Cond.fieldLink RX12 225 (TX12 19).1 (TX12 19).2.1 (TX12 19).2.2.1 ∈ ck_T := ck_inc6 (i := 43) rfl rfl
theorem fl_X12_249 : Cond.fieldLink RX12 249 (TX12 20).1 (TX12 20).2.1 (TX12 20).2.2.1 ∈ ck_T := ck_inc6 (i := 44) rfl rfl
theorem fl_X12_154 : Cond.fieldLink RX12 154 (TX12 21).1 (TX12 21).2.1 (TX12 21).2.2.1 ∈ ck_T := ck_inc6 (i := 45) rfl rfl
theorem fl_X12_151 : Cond.fieldLink RX12 151 (TX12 22).1 (TX12 22).2.1 (TX12 22).2.2.1 ∈ ck_T := ck_inc6 (i := 46) rfl rfl
theorem fl_X12_161 : Cond.fieldLink RX12 161 (TX12 23).1 (TX12 23).2.1 (TX12 23).2.2.1 ∈ ck_T := ck_inc6 (i := 47) rfl rfl
theorem fl_X12_164 : Cond.fieldLink RX12 164 (TX12 24).1 (TX12 24).2.1 (TX12 24).2.2.1 ∈ ck_T := ck_inc6 (i := 48) rfl rfl
theorem fl_X12_174 : Cond.fieldLink RX12 174 (TX12 25).1 (TX12 25).2.1 (TX12 25).2.2.1 ∈ ck_T := ck_inc6 (i := 49) rfl rfl
theorem fl_X12_199 : Cond.fieldLink RX12 199 (TX12 26).1 (TX12 26).2.1 (TX12 26).2.2.1 ∈ ck_T := ck_inc6 (i := 50) rfl rfl
theorem fl_X12_202 : Cond.fieldLink RX12 202 (TX12 27).1 (TX12 27).2.1 (TX12 27).2.2.1 ∈ ck_T := ck_inc6 (i := 51) rfl rfl
theorem fl_X12_288 : Cond.fieldLink RX12 288 (TX12 28).1 (TX12 28).2.1 (TX12 28).2.2.1 ∈ ck_T := ck_inc6 (i := 52) rfl rfl
theorem fl_X12_61 : Cond.fieldLink RX12 61 (TX12 29).1 (TX12 29).2.1 (TX12 29).2.2.1 ∈ ck_T := ck_inc6 (i := 53) rfl rfl
theorem fl_X12_282 : Cond.fieldLink RX12 282 (TX12 30).1 (TX12 30).2.1 (TX12 30).2.2.1 ∈ ck_T := ck_inc6 (i := 54) rfl rfl
theorem fl_X12_255 : Cond.fieldLink RX12 255 (TX12 31).1 (TX12 31).2.1 (TX12 31).2.2.1 ∈ ck_T := ck_inc6 (i := 55) rfl rfl
theorem fl_X12_65 : Cond.fieldLink RX12 65 (TX12 32).1 (TX12 32).2.1 (TX12 32).2.2.1 ∈ ck_T := ck_inc6 (i := 56) rfl rfl
theorem fl_X12_69 : Cond.fieldLink RX12 69 (TX12 33).1 (TX12 33).2.1 (TX12 33).2.2.1 ∈ ck_T := ck_inc6 (i := 57) rfl rfl
theorem fl_X12_305 : Cond.fieldLink RX12 305 (TX12 34).1 (TX12 34).2.1 (TX12 34).2.2.1 ∈ ck_T := ck_inc6 (i := 58) rfl rfl
theorem fl_X12_72 : Cond.fieldLink RX12 72 (TX12 35).1 (TX12 35).2.1 (TX12 35).2.2.1 ∈ ck_T := ck_inc6 (i := 59) rfl rfl
theorem fl_X12_75 : Cond.fieldLink RX12 75 (TX12 36).1 (TX12 36).2.1 (TX12 36).2.2.1 ∈ ck_T := ck_inc6 (i := 60) rfl rfl
theorem fl_X12_78 : Cond.fieldLink RX12 78 (TX12 37).1 (TX12 37).2.1 (TX12 37).2.2.1 ∈ ck_T := ck_inc6 (i := 61) rfl rfl
theorem fl_X12_81 : Cond.fieldLink RX12 81 (TX12 38).1 (TX12 38).2.1 (TX12 38).2.2.1 ∈ ck_T := ck_inc6 (i := 62) rfl rfl
theorem fl_X12_84 : Cond.fieldLink RX12 84 (TX12 39).1 (TX12 39).2.1 (TX12 39).2.2.1 ∈ ck_T := ck_inc6 (i := 63) rfl rfl
theorem fl_X12_87 : Cond.fieldLink RX12 87 (TX12 40).1 (TX12 40).2.1 (TX12 40).2.2.1 ∈ ck_T := ck_inc6 (i := 64) rfl rfl
theorem fl_X12_90 : Cond.fieldLink RX12 90 (TX12 41).1 (TX12 41).2.1 (TX12 41).2.2.1 ∈ ck_T := ck_inc6 (i := 65) rfl rfl
theorem fl_X12_93 : Cond.fieldLink RX12 93 (TX12 42).1 (TX12 42).2.1 (TX12 42).2.2.1 ∈ ck_T := ck_inc6 (i := 66) rfl rfl
theorem fl_X12_96 : Cond.fieldLink RX12 96 (TX12 43).1 (TX12 43).2.1 (TX12 43).2.2.1 ∈ ck_T := ck_inc6 (i := 67) rfl rfl
theorem fl_X12_298 : Cond.fieldLink RX12 298 (TX12 44).1 (TX12 44).2.1 (TX12 44).2.2.1 ∈ ck_T := ck_inc6 (i := 68) rfl rfl
theorem fl_X12_302 : Cond.fieldLink RX12 302 (TX12 45).1 (TX12 45).2.1 (TX12 45).2.2.1 ∈ ck_T := ck_inc6 (i := 69) rfl rfl
theorem fl_X12_352 : Cond.fieldLink RX12 352 (TX12 46).1 (TX12 46).2.1 (TX12 46).2.2.1 ∈ ck_T := ck_inc6 (i := 70) rfl rfl
theorem fl_X12_99 : Cond.fieldLink RX12 99 (TX12 47).1 (TX12 47).2.1 (TX12 47).2.2.1 ∈ ck_T := ck_inc6 (i := 71) rfl rfl
theorem fl_X12_102 : Cond.fieldLink RX12 102 (TX12 48).1 (TX12 48).2.1 (TX12 48).2.2.1 ∈ ck_T := ck_inc6 (i := 72) rfl rfl
theorem fl_X12_364 : Cond.fieldLink RX12 364 (TX12 49).1 (TX12 49).2.1 (TX12 49).2.2.1 ∈ ck_T := ck_inc6 (i := 73) rfl rfl
theorem fl_X12_367 : Cond.fieldLink RX12 367 (TX12 50).1 (TX12 50).2.1 (TX12 50).2.2.1 ∈ ck_T := ck_inc6 (i := 74) rfl rfl
theorem fl_X12_105 : Cond.fieldLink RX12 105 (TX12 51).1 (TX12 51).2.1 (TX12 51).2.2.1 ∈ ck_T := ck_inc6 (i := 75) rfl rfl
theorem fl_X12_435 : Cond.fieldLink RX12 435 (TX12 52).1 (TX12 52).2.1 (TX12 52).2.2.1 ∈ ck_T := ck_inc6 (i := 76) rfl rfl
theorem fl_X12_438 : Cond.fieldLink RX12 438 (TX12 53).1 (TX12 53).2.1 (TX12 53).2.2.1 ∈ ck_T := ck_inc6 (i := 77) rfl rfl
theorem fl_X12_444 : Cond.fieldLink RX12 444 (TX12 54).1 (TX12 54).2.1 (TX12 54).2.2.1 ∈ ck_T := ck_inc6 (i := 78) rfl rfl
theorem fl_X12_108 : Cond.fieldLink RX12 108 (TX12 55).1 (TX12 55).2.1 (TX12 55).2.2.1 ∈ ck_T := ck_inc6 (i := 79) rfl rfl
theorem fl_X12_111 : Cond.fieldLink RX12 111 (TX12 56).1 (TX12 56).2.1 (TX12 56).2.2.1 ∈ ck_T := ck_inc6 (i := 80) rfl rfl
theorem fl_X12_114 : Cond.fieldLink RX12 114 (TX12 57).1 (TX12 57).2.1 (TX12 57).2.2.1 ∈ ck_T := ck_inc6 (i := 81) rfl rfl
theorem fl_X12_450 : Cond.fieldLink RX12 450 (TX12 58).1 (TX12 58).2.1 (TX12 58).2.2.1 ∈ ck_T := ck_inc6 (i := 82) rfl rfl
theorem fl_X12_456 : Cond.fieldLink RX12 456 (TX12 59).1 (TX12 59).2.1 (TX12 59).2.2.1 ∈ ck_T := ck_inc6 (i := 83) rfl rfl
theorem fl_X12_117 : Cond.fieldLink RX12 117 (TX12 60).1 (TX12 60).2.1 (TX12 60).2.2.1 ∈ ck_T := ck_inc6 (i := 84) rfl rfl
theorem fl_X12_120 : Cond.fieldLink RX12 120 (TX12 61).1 (TX12 61).2.1 (TX12 61).2.2.1 ∈ ck_T := ck_inc6 (i := 85) rfl rfl
theorem fl_X12_295 : Cond.fieldLink RX12 295 (TX12 62).1 (TX12 62).2.1 (TX12 62).2.2.1 ∈ ck_T := ck_inc6 (i := 86) rfl rfl
theorem fl_X12_123 : Cond.fieldLink RX12 123 (TX12 63).1 (TX12 63).2.1 (TX12 63).2.2.1 ∈ ck_T := ck_inc6 (i := 87) rfl rfl
theorem fl_X12_126 : Cond.fieldLink RX12 126 (TX12 64).1 (TX12 64).2.1 (TX12 64).2.2.1 ∈ ck_T := ck_inc6 (i := 88) rfl rfl
theorem fl_X12_129 : Cond.fieldLink RX12 129 (TX12 65).1 (TX12 65).2.1 (TX12 65).2.2.1 ∈ ck_T := ck_inc6 (i := 89) rfl rfl
theorem fl_X12_132 : Cond.fieldLink RX12 132 (TX12 66).1 (TX12 66).2.1 (TX12 66).2.2.1 ∈ ck_T := ck_inc6 (i := 90) rfl rfl
theorem fl_X12_136 : Cond.fieldLink RX12 136 (TX12 67).1 (TX12 67).2.1 (TX12 67).2.2.1 ∈ ck_T := ck_inc6 (i := 91) rfl rfl
theorem fl_X12_139 : Cond.fieldLink RX12 139 (TX12 68).1 (TX12 68).2.1 (TX12 68).2.2.1 ∈ ck_T := ck_inc6 (i := 92) rfl rfl
theorem fj_J0_9 : Cond.fieldLink RJ0 9 "java/lang/String" "value" "[B" ∈ ck_T := ck_inc8 (i := 215) rfl rfl
theorem fj_J0_15 : Cond.fieldLink RJ0 15 "java/lang/String" "coder" "B" ∈ ck_T := ck_inc8 (i := 216) rfl rfl
theorem con_X8_62 : Cond.constant RX8 62 (99999 : Int32) ∈ ck_T := ck_inc3 (i := 126) rfl rfl
theorem con_X9_156 : Cond.constant RX9 156 (99999 : Int32) ∈ ck_T := ck_inc3 (i := 188) rfl rfl
theorem con_J6_265 : Cond.constant RJ6 265 (1431655765 : Int32) ∈ ck_T := ck_inc5 (i := 22) rfl rfl
theorem con_J6_266 : Cond.constant RJ6 266 (858993459 : Int32) ∈ ck_T := ck_inc5 (i := 23) rfl rfl
theorem con_J6_267 : Cond.constant RJ6 267 (252645135 : Int32) ∈ ck_T := ck_inc5 (i := 24) rfl rfl
theorem con_X12_183 : Cond.constant RX12 183 (99999 : Int32) ∈ ck_T := ck_inc7 (i := 33) rfl rfl
theorem con_X12_370 : Cond.constant RX12 370 (1103515245 : Int32) ∈ ck_T := ck_inc8 (i := 35) rfl rfl
theorem con_X12_373 : Cond.constant RX12 373 (2147483647 : Int32) ∈ ck_T := ck_inc8 (i := 36) rfl rfl
theorem con_X4_36 : Cond.constantLong RX4 36 (-9223372036854775808 : Int64) ∈ ck_T := ck_inc4 (i := 69) rfl rfl
theorem con_X4_42 : Cond.constantLong RX4 42 (1000000000000 : Int64) ∈ ck_T := ck_inc4 (i := 76) rfl rfl
theorem con_X4_44 : Cond.constantLong RX4 44 (-1000000000000 : Int64) ∈ ck_T := ck_inc4 (i := 77) rfl rfl
theorem con_X10_164 : Cond.constantLong RX10 164 (-9223372036854775808 : Int64) ∈ ck_T := ck_inc4 (i := 78) rfl rfl
theorem con_X11_205 : Cond.constantLong RX11 205 (-9223372036854775808 : Int64) ∈ ck_T := ck_inc4 (i := 94) rfl rfl
theorem con_X10_140 : Cond.constantLong RX10 140 (1103515245 : Int64) ∈ ck_T := ck_inc4 (i := 167) rfl rfl
theorem con_X10_142 : Cond.constantLong RX10 142 (12345 : Int64) ∈ ck_T := ck_inc4 (i := 168) rfl rfl
theorem con_X10_144 : Cond.constantLong RX10 144 (2147483647 : Int64) ∈ ck_T := ck_inc4 (i := 169) rfl rfl
theorem con_X10_146 : Cond.constantLong RX10 146 (65536 : Int64) ∈ ck_T := ck_inc4 (i := 170) rfl rfl
theorem con_X12_318 : Cond.constantLong RX12 318 (1000000000000 : Int64) ∈ ck_T := ck_inc7 (i := 198) rfl rfl
theorem con_X12_320 : Cond.constantLong RX12 320 (-1000000000000 : Int64) ∈ ck_T := ck_inc7 (i := 199) rfl rfl
theorem con_X12_415 : Cond.constantLong RX12 415 (-9223372036854775808 : Int64) ∈ ck_T := ck_inc7 (i := 226) rfl rfl
theorem kl_L_8 : Cond.classLink RL 8 RX11 ∈ ck_T := ck_inc1 (i := 26) rfl rfl
theorem kl_X11_15 : Cond.classLink RX11 15 RX9 ∈ ck_T := ck_inc1 (i := 34) rfl rfl
theorem kl_X9_9 : Cond.classLink RX9 9 RX8 ∈ ck_T := ck_inc1 (i := 40) rfl rfl
theorem kl_X9_20 : Cond.classLink RX9 20 RX3 ∈ ck_T := ck_inc1 (i := 128) rfl rfl
theorem kl_X11_24 : Cond.classLink RX11 24 RX1 ∈ ck_T := ck_inc1 (i := 163) rfl rfl
theorem kl_X11_37 : Cond.classLink RX11 37 RX6 ∈ ck_T := ck_inc1 (i := 220) rfl rfl
theorem kl_X11_44 : Cond.classLink RX11 44 RX2 ∈ ck_T := ck_inc2 (i := 11) rfl rfl
theorem kl_X11_51 : Cond.classLink RX11 51 RX7 ∈ ck_T := ck_inc2 (i := 31) rfl rfl
theorem kl_X7_9 : Cond.classLink RX7 9 RX5 ∈ ck_T := ck_inc2 (i := 37) rfl rfl
theorem kl_X7_51 : Cond.classLink RX7 51 RX4 ∈ ck_T := ck_inc2 (i := 55) rfl rfl
theorem kl_X11_65 : Cond.classLink RX11 65 RX10 ∈ ck_T := ck_inc2 (i := 184) rfl rfl
theorem kl_X11_74 : Cond.classLink RX11 74 RX0 ∈ ck_T := ck_inc2 (i := 239) rfl rfl
theorem kl_L_18 : Cond.classLink RL 18 RX12 ∈ ck_T := ck_inc6 (i := 6) rfl rfl
theorem arr_byte : Cond.arrayClass .byte ∈ ck_T := ck_inc1 (i := 126) rfl rfl
theorem arr_int : Cond.arrayClass .int ∈ ck_T := ck_inc1 (i := 127) rfl rfl
theorem arr_boolean : Cond.arrayClass .boolean ∈ ck_T := ck_inc2 (i := 10) rfl rfl
theorem arr_long : Cond.arrayClass .long ∈ ck_T := ck_inc2 (i := 84) rfl rfl
theorem w_obj : Cond.instanceMethod objectInit ∈ ck_T ∧ Cond.code objectInit ⟨#[0xb1]⟩ 1 none ∈ ck_T := ⟨ck_inc1 (i := 32) rfl rfl, ck_inc1 (i := 33) rfl rfl⟩
theorem w_acopy : Cond.native arraycopyName ∈ ck_T ∧ Cond.static arraycopyName ∈ ck_T ∧ Cond.initialized "java/lang/System" ∈ ck_T := ⟨ck_inc3 (i := 39) rfl rfl, ck_inc3 (i := 38) rfl rfl, ck_inc1 (i := 17) rfl rfl⟩
theorem w_mmax : Cond.static Lib.Math.max.name ∈ ck_T ∧ Cond.initialized "java/lang/Math" ∈ ck_T ∧ Cond.code Lib.Math.max.name Lib.Math.max.code 2 (some .int) ∈ ck_T := ⟨ck_inc8 (i := 38) rfl rfl, ck_inc1 (i := 24) rfl rfl, ck_inc8 (i := 39) rfl rfl⟩
theorem w_mmaxL : Cond.static Lib.MathLoose.max_long.x ∈ ck_T ∧ Cond.initialized "java/lang/Math" ∈ ck_T ∧ Cond.code Lib.MathLoose.max_long.x Lib.MathLoose.max_long.code 4 (some .long) ∈ ck_T := ⟨ck_inc7 (i := 204) rfl rfl, ck_inc1 (i := 24) rfl rfl, ck_inc7 (i := 205) rfl rfl⟩
theorem w_mminL : Cond.static Lib.MathLoose.min_long.x ∈ ck_T ∧ Cond.initialized "java/lang/Math" ∈ ck_T ∧ Cond.code Lib.MathLoose.min_long.x Lib.MathLoose.min_long.code 4 (some .long) ∈ ck_T := ⟨ck_inc7 (i := 201) rfl rfl, ck_inc1 (i := 24) rfl rfl, ck_inc7 (i := 202) rfl rfl⟩
theorem w_mabsL : Cond.static Lib.MathLoose.abs_long.x ∈ ck_T ∧ Cond.initialized "java/lang/Math" ∈ ck_T ∧ Cond.code Lib.MathLoose.abs_long.x Lib.MathLoose.abs_long.code 2 (some .long) ∈ ck_T := ⟨ck_inc7 (i := 196) rfl rfl, ck_inc1 (i := 24) rfl rfl, ck_inc7 (i := 197) rfl rfl⟩
