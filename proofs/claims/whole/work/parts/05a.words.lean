theorem lay_of {ws : List Cond} (ps : List Nat) (hp : ws = ps.filterMap (fun i => lw_tbl[i]?)) (h : ws.all goodWord = true) : ∀ w ∈ ws, w ∈ UW := by
  intro w hw
  have h1 := List.all_eq_true.mp h w hw
  rw [hp] at hw
  obtain ⟨i, -, hi⟩ := List.mem_filterMap.mp hw
  exact um (List.mem_of_getElem? hi) h1
theorem tb_1 : ∀ w ∈ tables_1_1, w ∈ lw_tbl := fun w h => List.mem_append_right _ (List.mem_append_left _ h)
theorem tb_2 : ∀ w ∈ tables_1_2, w ∈ lw_tbl := fun w h => List.mem_append_right _ (List.mem_append_right _ (List.mem_append_left _ h))
theorem tb_3 : ∀ w ∈ tables_1_3, w ∈ lw_tbl := fun w h => List.mem_append_right _ (List.mem_append_right _ (List.mem_append_right _ (List.mem_append_left _ h)))
theorem tb_4 : ∀ w ∈ tables_1_4, w ∈ lw_tbl := fun w h => List.mem_append_right _ (List.mem_append_right _ (List.mem_append_right _ (List.mem_append_right _ (List.mem_append_left _ h))))
theorem tb_5 : ∀ w ∈ tables_1_5, w ∈ lw_tbl := fun w h => List.mem_append_right _ (List.mem_append_right _ (List.mem_append_right _ (List.mem_append_right _ (List.mem_append_right _ (List.mem_append_left _ h)))))
theorem tb_6 : ∀ w ∈ tables_1_6, w ∈ lw_tbl := fun w h => List.mem_append_right _ (List.mem_append_right _ (List.mem_append_right _ (List.mem_append_right _ (List.mem_append_right _ (List.mem_append_right _ (List.mem_append_left _ h))))))
theorem tb_7 : ∀ w ∈ tables_1_7, w ∈ lw_tbl := fun w h => List.mem_append_right _ (List.mem_append_right _ (List.mem_append_right _ (List.mem_append_right _ (List.mem_append_right _ (List.mem_append_right _ (List.mem_append_right _ (List.mem_append_left _ h)))))))
theorem tb_8 : ∀ w ∈ tables_1_8, w ∈ lw_tbl := fun w h => List.mem_append_right _ (List.mem_append_right _ (List.mem_append_right _ (List.mem_append_right _ (List.mem_append_right _ (List.mem_append_right _ (List.mem_append_right _ (List.mem_append_right _ (h))))))))
theorem pv_1 : ∀ w ∈ k2_sels lw_privs_1, w ∈ lw_tbl := by
  intro w hw
  obtain ⟨q, h, rfl⟩ := List.mem_map.mp hw
  exact List.mem_append_left _ (List.mem_map.mpr ⟨q, by show q ∈ lw_privs_1 ++ _; exact List.mem_append_left _ h, rfl⟩)
theorem pv_2 : ∀ w ∈ k2_sels lw_privs_2, w ∈ lw_tbl := by
  intro w hw
  obtain ⟨q, h, rfl⟩ := List.mem_map.mp hw
  exact List.mem_append_left _ (List.mem_map.mpr ⟨q, by show q ∈ lw_privs_1 ++ _; exact List.mem_append_right _ (List.mem_append_left _ h), rfl⟩)
theorem pv_3 : ∀ w ∈ k2_sels lw_privs_3, w ∈ lw_tbl := by
  intro w hw
  obtain ⟨q, h, rfl⟩ := List.mem_map.mp hw
  exact List.mem_append_left _ (List.mem_map.mpr ⟨q, by show q ∈ lw_privs_1 ++ _; exact List.mem_append_right _ (List.mem_append_right _ (List.mem_append_left _ h)), rfl⟩)
theorem pv_4 : ∀ w ∈ k2_sels lw_privs_4, w ∈ lw_tbl := by
  intro w hw
  obtain ⟨q, h, rfl⟩ := List.mem_map.mp hw
  exact List.mem_append_left _ (List.mem_map.mpr ⟨q, by show q ∈ lw_privs_1 ++ _; exact List.mem_append_right _ (List.mem_append_right _ (List.mem_append_right _ (List.mem_append_left _ h))), rfl⟩)
theorem pv_5 : ∀ w ∈ k2_sels lw_privs_5, w ∈ lw_tbl := by
  intro w hw
  obtain ⟨q, h, rfl⟩ := List.mem_map.mp hw
  exact List.mem_append_left _ (List.mem_map.mpr ⟨q, by show q ∈ lw_privs_1 ++ _; exact List.mem_append_right _ (List.mem_append_right _ (List.mem_append_right _ (List.mem_append_right _ (List.mem_append_left _ h)))), rfl⟩)
theorem pv_6 : ∀ w ∈ k2_sels lw_privs_6, w ∈ lw_tbl := by
  intro w hw
  obtain ⟨q, h, rfl⟩ := List.mem_map.mp hw
  exact List.mem_append_left _ (List.mem_map.mpr ⟨q, by show q ∈ lw_privs_1 ++ _; exact List.mem_append_right _ (List.mem_append_right _ (List.mem_append_right _ (List.mem_append_right _ (List.mem_append_right _ (List.mem_append_left _ h))))), rfl⟩)
theorem pv_7 : ∀ w ∈ k2_sels lw_privs_7, w ∈ lw_tbl := by
  intro w hw
  obtain ⟨q, h, rfl⟩ := List.mem_map.mp hw
  exact List.mem_append_left _ (List.mem_map.mpr ⟨q, by show q ∈ lw_privs_1 ++ _; exact List.mem_append_right _ (List.mem_append_right _ (List.mem_append_right _ (List.mem_append_right _ (List.mem_append_right _ (List.mem_append_right _ (List.mem_append_left _ h)))))), rfl⟩)
theorem pv_8 : ∀ w ∈ k2_sels lw_privs_8, w ∈ lw_tbl := by
  intro w hw
  obtain ⟨q, h, rfl⟩ := List.mem_map.mp hw
  exact List.mem_append_left _ (List.mem_map.mpr ⟨q, by show q ∈ lw_privs_1 ++ _; exact List.mem_append_right _ (List.mem_append_right _ (List.mem_append_right _ (List.mem_append_right _ (List.mem_append_right _ (List.mem_append_right _ (List.mem_append_right _ (List.mem_append_left _ h))))))), rfl⟩)
theorem pv_9 : ∀ w ∈ k2_sels lw_privs_9, w ∈ lw_tbl := by
  intro w hw
  obtain ⟨q, h, rfl⟩ := List.mem_map.mp hw
  exact List.mem_append_left _ (List.mem_map.mpr ⟨q, by show q ∈ lw_privs_1 ++ _; exact List.mem_append_right _ (List.mem_append_right _ (List.mem_append_right _ (List.mem_append_right _ (List.mem_append_right _ (List.mem_append_right _ (List.mem_append_right _ (List.mem_append_right _ (h)))))))), rfl⟩)
set_option maxRecDepth 20000 in
theorem lay_0 : ∀ w ∈ u_ws RX2 TX2 17, w ∈ UW := lay_of [456, 458, 460, 462, 464, 466, 468, 470, 472, 474, 476, 478, 480, 482, 484, 486, 488] (by decide +kernel) (by decide +kernel)
theorem clk_0 : CLK 0 RX2 TX2 17 tyX2 := ⟨rfl, lay_0, tyX2_ok, nmX2⟩
set_option maxRecDepth 20000 in
theorem lay_1 : ∀ w ∈ u_ws RX3 TX3 5, w ∈ UW := lay_of [274, 276, 278, 280, 282] (by decide +kernel) (by decide +kernel)
theorem clk_1 : CLK 1 RX3 TX3 5 tyX3 := ⟨rfl, lay_1, tyX3_ok, nmX3⟩
set_option maxRecDepth 20000 in
theorem lay_2 : ∀ w ∈ u_ws RX4 TX4 13, w ∈ UW := lay_of [398, 400, 402, 404, 406, 408, 410, 412, 414, 416, 418, 420, 422] (by decide +kernel) (by decide +kernel)
theorem clk_2 : CLK 2 RX4 TX4 13 tyX4 := ⟨rfl, lay_2, tyX4_ok, nmX4⟩
set_option maxRecDepth 20000 in
theorem lay_3 : ∀ w ∈ u_ws RX5 TX5 11, w ∈ UW := lay_of [348, 350, 352, 354, 356, 358, 360, 362, 364, 366, 368] (by decide +kernel) (by decide +kernel)
theorem clk_3 : CLK 3 RX5 TX5 11 tyX5 := ⟨rfl, lay_3, tyX5_ok, nmX5⟩
set_option maxRecDepth 20000 in
theorem lay_4 : ∀ w ∈ u_ws RX6 TX6 11, w ∈ UW := lay_of [524, 526, 528, 530, 532, 534, 536, 538, 540, 542, 544] (by decide +kernel) (by decide +kernel)
theorem clk_4 : CLK 4 RX6 TX6 11 tyX6 := ⟨rfl, lay_4, tyX6_ok, nmX6⟩
set_option maxRecDepth 20000 in
theorem lay_5 : ∀ w ∈ u_ws RX7 TX7 3, w ∈ UW := lay_of [248, 250, 252] (by decide +kernel) (by decide +kernel)
theorem clk_5 : CLK 5 RX7 TX7 3 tyX7 := ⟨rfl, lay_5, tyX7_ok, nmX7⟩
set_option maxRecDepth 20000 in
theorem lay_6 : ∀ w ∈ u_ws RX8 TX8 6, w ∈ UW := lay_of [219, 221, 223, 225, 227, 229] (by decide +kernel) (by decide +kernel)
theorem clk_6 : CLK 6 RX8 TX8 6 tyX8 := ⟨rfl, lay_6, tyX8_ok, nmX8⟩
set_option maxRecDepth 20000 in
theorem lay_7 : ∀ w ∈ u_ws RX9 TX9 8, w ∈ UW := lay_of [302, 304, 306, 308, 310, 312, 314, 316] (by decide +kernel) (by decide +kernel)
theorem clk_7 : CLK 7 RX9 TX9 8 tyX9 := ⟨rfl, lay_7, tyX9_ok, nmX9⟩
set_option maxRecDepth 20000 in
theorem lay_8 : ∀ w ∈ u_ws RX10 TX10 2, w ∈ UW := lay_of [497, 499] (by decide +kernel) (by decide +kernel)
theorem clk_8 : CLK 8 RX10 TX10 2 tyX10 := ⟨rfl, lay_8, tyX10_ok, nmX10⟩
set_option maxRecDepth 20000 in
theorem lay_9 : ∀ w ∈ u_ws RX11 TX11 8, w ∈ UW := lay_of [555, 557, 559, 561, 563, 565, 567, 569] (by decide +kernel) (by decide +kernel)
theorem clk_9 : CLK 9 RX11 TX11 8 tyX11 := ⟨rfl, lay_9, tyX11_ok, nmX11⟩
set_option maxRecDepth 20000 in
theorem lay_10 : ∀ w ∈ u_ws RX12 TX12 62, w ∈ UW := lay_of [1335, 1337, 1339, 1341, 1343, 1345, 1347, 1349, 1351, 1353, 1355, 1357, 1359, 1361, 1363, 1365, 1367, 1369, 1371, 1373, 1375, 1377, 1379, 1381, 1383, 1385, 1387, 1389, 1391, 1393, 1395, 1397, 1399, 1401, 1403, 1405, 1407, 1409, 1411, 1413, 1415, 1417, 1419, 1421, 1423, 1425, 1427, 1429, 1431, 1433, 1435, 1437, 1439, 1441, 1443, 1445, 1447, 1449, 1451, 1453, 1455, 1457] (by decide +kernel) (by decide +kernel)
theorem clk_10 : CLK 10 RX12 TX12 62 tyX12 := ⟨rfl, lay_10, tyX12_ok, nmX12⟩
theorem ka_11 : KA 0 11 2 4096 := ⟨by decide, rfl, rfl, rfl⟩
theorem ka_12 : KA 0 12 1 2200 := ⟨by decide, rfl, rfl, rfl⟩
theorem ka_13 : KA 0 13 2 2200 := ⟨by decide, rfl, rfl, rfl⟩
theorem ka_14 : KA 0 14 1 2200 := ⟨by decide, rfl, rfl, rfl⟩
theorem ka_15 : KA 0 15 1 2200 := ⟨by decide, rfl, rfl, rfl⟩
theorem ka_16 : KA 0 16 2 2200 := ⟨by decide, rfl, rfl, rfl⟩
theorem ka_17 : KA 0 17 2 2200 := ⟨by decide, rfl, rfl, rfl⟩
theorem ka_18 : KA 0 18 2 11000 := ⟨by decide, rfl, rfl, rfl⟩
theorem ka_19 : KA 0 19 2 2200 := ⟨by decide, rfl, rfl, rfl⟩
theorem ka_20 : KA 0 20 2 2200 := ⟨by decide, rfl, rfl, rfl⟩
theorem ka_21 : KA 0 21 0 8 := ⟨by decide, rfl, rfl, rfl⟩
theorem ka_22 : KA 0 22 0 8 := ⟨by decide, rfl, rfl, rfl⟩
theorem ka_23 : KA 0 23 0 8 := ⟨by decide, rfl, rfl, rfl⟩
theorem ka_24 : KA 0 24 0 5 := ⟨by decide, rfl, rfl, rfl⟩
theorem ka_25 : KA 0 25 1 0 := ⟨by decide, rfl, rfl, rfl⟩
theorem ka_26 : KA 0 26 0 3 := ⟨by decide, rfl, rfl, rfl⟩
theorem ka_27 : KA 0 27 0 4 := ⟨by decide, rfl, rfl, rfl⟩
theorem ka_28 : KA 0 28 0 4 := ⟨by decide, rfl, rfl, rfl⟩
theorem ka_29 : KA 0 29 0 5 := ⟨by decide, rfl, rfl, rfl⟩
theorem ka_30 : KA 0 30 0 105 := ⟨by decide, rfl, rfl, rfl⟩
theorem ka_31 : KA 0 31 0 40 := ⟨by decide, rfl, rfl, rfl⟩
theorem ka_32 : KA 0 32 0 40 := ⟨by decide, rfl, rfl, rfl⟩
theorem ka_33 : KA 0 33 0 5 := ⟨by decide, rfl, rfl, rfl⟩
theorem ka_34 : KA 0 34 0 5 := ⟨by decide, rfl, rfl, rfl⟩
theorem ka_35 : KA 0 35 0 5 := ⟨by decide, rfl, rfl, rfl⟩
theorem ka_36 : KA 0 36 1 600 := ⟨by decide, rfl, rfl, rfl⟩
theorem ka_37 : KA 0 37 0 3 := ⟨by decide, rfl, rfl, rfl⟩
theorem ka_42 : KA 0 42 3 3 := ⟨by decide, rfl, rfl, rfl⟩
theorem ka_43 : KA 1 43 1 2400 := ⟨by decide, rfl, rfl, rfl⟩
theorem ka_44 : KA 1 44 0 4 := ⟨by decide, rfl, rfl, rfl⟩
theorem ka_45 : KA 1 45 0 4 := ⟨by decide, rfl, rfl, rfl⟩
theorem ka_46 : KA 1 46 0 4 := ⟨by decide, rfl, rfl, rfl⟩
theorem ka_47 : KA 1 47 0 12 := ⟨by decide, rfl, rfl, rfl⟩
theorem ka_48 : KA 1 48 0 144 := ⟨by decide, rfl, rfl, rfl⟩
theorem ka_49 : KA 1 49 0 648 := ⟨by decide, rfl, rfl, rfl⟩
theorem ka_50 : KA 1 50 0 208 := ⟨by decide, rfl, rfl, rfl⟩
theorem ka_51 : KA 1 51 0 81 := ⟨by decide, rfl, rfl, rfl⟩
theorem ka_52 : KA 1 52 0 3 := ⟨by decide, rfl, rfl, rfl⟩
theorem ka_53 : KA 1 53 0 5 := ⟨by decide, rfl, rfl, rfl⟩
theorem ka_54 : KA 1 54 0 5 := ⟨by decide, rfl, rfl, rfl⟩
theorem ka_55 : KA 1 55 0 5 := ⟨by decide, rfl, rfl, rfl⟩
theorem ka_56 : KA 1 56 0 5 := ⟨by decide, rfl, rfl, rfl⟩
theorem ka_57 : KA 1 57 0 64 := ⟨by decide, rfl, rfl, rfl⟩
theorem ka_58 : KA 1 58 0 46656 := ⟨by decide, rfl, rfl, rfl⟩
theorem ka_59 : KA 1 59 0 46656 := ⟨by decide, rfl, rfl, rfl⟩
theorem ka_60 : KA 1 60 0 46656 := ⟨by decide, rfl, rfl, rfl⟩
theorem ka_61 : KA 1 61 0 46656 := ⟨by decide, rfl, rfl, rfl⟩
theorem ka_62 : KA 1 62 0 46656 := ⟨by decide, rfl, rfl, rfl⟩
theorem ka_63 : KA 1 63 0 5 := ⟨by decide, rfl, rfl, rfl⟩
theorem ka_64 : KA 1 64 0 216 := ⟨by decide, rfl, rfl, rfl⟩
theorem ka_65 : KA 1 65 0 4 := ⟨by decide, rfl, rfl, rfl⟩
theorem ka_66 : KA 1 66 0 105 := ⟨by decide, rfl, rfl, rfl⟩
theorem ka_67 : KA 1 67 3 3 := ⟨by decide, rfl, rfl, rfl⟩
theorem kr_38 : KR 0 38 4 2 6 2 1 0 := ⟨by decide, rfl, rfl⟩
theorem kr_39 : KR 0 39 5 2 5 2 1 0 := ⟨by decide, rfl, rfl⟩
theorem kr_40 : KR 0 40 6 2 1 2 1 0 := ⟨by decide, rfl, rfl⟩
theorem kr_41 : KR 0 41 7 3 7 0 1 1 := ⟨by decide, rfl, rfl⟩
theorem w_2_173 : (.fieldLink RX11 10 "PlateRunner" "told" "LPlateRunner$Told;" : Cond) ∈ UW := um (tb_2 _ (List.mem_of_getElem? (i := 173) (by decide +kernel))) (by decide +kernel)
theorem fl_X11_10 : FL 0 RX11 10 9 0 (2, 7, 0, 0) (.object "PlateRunner$Told") true := ⟨by decide, ⟨_, rfl, rfl⟩, RX11, TX11, 8, tyX11, clk_9, by decide, w_2_173, rfl, rfl⟩
theorem w_2_174 : (.fieldLink RX11 16 "PlateRunner" "images" "[LPlateRunner$Told;" : Cond) ∈ UW := um (tb_2 _ (List.mem_of_getElem? (i := 174) (by decide +kernel))) (by decide +kernel)
theorem fl_X11_16 : FL 0 RX11 16 9 1 (2, 41, 0, 0) (.array (.object "PlateRunner$Told")) true := ⟨by decide, ⟨_, rfl, rfl⟩, RX11, TX11, 8, tyX11, clk_9, by decide, w_2_174, rfl, rfl⟩
theorem w_2_175 : (.fieldLink RX11 20 "PlateRunner" "imaged" "[Z" : Cond) ∈ UW := um (tb_2 _ (List.mem_of_getElem? (i := 175) (by decide +kernel))) (by decide +kernel)
theorem fl_X11_20 : FL 0 RX11 20 9 2 (2, 42, 0, 0) (.array .boolean) true := ⟨by decide, ⟨_, rfl, rfl⟩, RX11, TX11, 8, tyX11, clk_9, by decide, w_2_175, rfl, rfl⟩
theorem w_2_176 : (.fieldLink RX11 27 "PlateRunner" "reader" "LPlateRunner$Reader;" : Cond) ∈ UW := um (tb_2 _ (List.mem_of_getElem? (i := 176) (by decide +kernel))) (by decide +kernel)
theorem fl_X11_27 : FL 0 RX11 27 9 3 (2, 3, 0, 0) (.object "PlateRunner$Reader") true := ⟨by decide, ⟨_, rfl, rfl⟩, RX11, TX11, 8, tyX11, clk_9, by decide, w_2_176, rfl, rfl⟩
theorem w_2_177 : (.fieldLink RX11 34 "PlateRunner" "player" "LPlateRunner$Player;" : Cond) ∈ UW := um (tb_2 _ (List.mem_of_getElem? (i := 177) (by decide +kernel))) (by decide +kernel)
theorem fl_X11_34 : FL 0 RX11 34 9 4 (2, 2, 0, 0) (.object "PlateRunner$Player") true := ⟨by decide, ⟨_, rfl, rfl⟩, RX11, TX11, 8, tyX11, clk_9, by decide, w_2_177, rfl, rfl⟩
theorem w_2_179 : (.fieldLink RX11 41 "PlateRunner" "trials" "LPlateRunner$Trials;" : Cond) ∈ UW := um (tb_2 _ (List.mem_of_getElem? (i := 179) (by decide +kernel))) (by decide +kernel)
theorem fl_X11_41 : FL 0 RX11 41 9 6 (2, 8, 0, 0) (.object "PlateRunner$Trials") true := ⟨by decide, ⟨_, rfl, rfl⟩, RX11, TX11, 8, tyX11, clk_9, by decide, w_2_179, rfl, rfl⟩
theorem w_2_121 : (.fieldLink RX11 45 "PlateRunner$Trials" "keeper" "LPlateRunner$Keeper;" : Cond) ∈ UW := um (tb_2 _ (List.mem_of_getElem? (i := 121) (by decide +kernel))) (by decide +kernel)
theorem fl_X11_45 : FL 0 RX11 45 8 0 (2, 0, 0, 0) (.object "PlateRunner$Keeper") true := ⟨by decide, ⟨_, rfl, rfl⟩, RX10, TX10, 2, tyX10, clk_8, by decide, w_2_121, rfl, rfl⟩
theorem w_2_178 : (.fieldLink RX11 49 "PlateRunner" "keeper" "LPlateRunner$Keeper;" : Cond) ∈ UW := um (tb_2 _ (List.mem_of_getElem? (i := 178) (by decide +kernel))) (by decide +kernel)
theorem fl_X11_49 : FL 0 RX11 49 9 5 (2, 0, 0, 0) (.object "PlateRunner$Keeper") true := ⟨by decide, ⟨_, rfl, rfl⟩, RX11, TX11, 8, tyX11, clk_9, by decide, w_2_178, rfl, rfl⟩
theorem w_2_180 : (.fieldLink RX11 53 "PlateRunner" "rows" "LPlateRunner$Rows;" : Cond) ∈ UW := um (tb_2 _ (List.mem_of_getElem? (i := 180) (by decide +kernel))) (by decide +kernel)
theorem fl_X11_53 : FL 0 RX11 53 9 7 (2, 4, 0, 0) (.object "PlateRunner$Rows") true := ⟨by decide, ⟨_, rfl, rfl⟩, RX11, TX11, 8, tyX11, clk_9, by decide, w_2_180, rfl, rfl⟩
theorem w_1_154 : (.fieldLink RX11 57 "PlateRunner$Told" "length" "I" : Cond) ∈ UW := um (tb_1 _ (List.mem_of_getElem? (i := 154) (by decide +kernel))) (by decide +kernel)
theorem fl_X11_57 : FL 0 RX11 57 7 1 (0, 0, 0, 0) .int false := ⟨by decide, ⟨_, rfl, rfl⟩, RX9, TX9, 8, tyX9, clk_7, by decide, w_1_154, rfl, rfl⟩
theorem w_1_157 : (.fieldLink RX11 69 "PlateRunner$Told" "fault" "I" : Cond) ∈ UW := um (tb_1 _ (List.mem_of_getElem? (i := 157) (by decide +kernel))) (by decide +kernel)
theorem fl_X11_69 : FL 0 RX11 69 7 2 (0, 0, 0, 0) .int false := ⟨by decide, ⟨_, rfl, rfl⟩, RX9, TX9, 8, tyX9, clk_7, by decide, w_1_157, rfl, rfl⟩
theorem w_1_159 : (.fieldLink RX11 72 "PlateRunner$Told" "faultAt" "I" : Cond) ∈ UW := um (tb_1 _ (List.mem_of_getElem? (i := 159) (by decide +kernel))) (by decide +kernel)
theorem fl_X11_72 : FL 0 RX11 72 7 3 (0, 0, 0, 0) .int false := ⟨by decide, ⟨_, rfl, rfl⟩, RX9, TX9, 8, tyX9, clk_7, by decide, w_1_159, rfl, rfl⟩
theorem w_1_205 : (.fieldLink RX11 79 "PlateRunner$Reader" "fault" "I" : Cond) ∈ UW := um (tb_1 _ (List.mem_of_getElem? (i := 205) (by decide +kernel))) (by decide +kernel)
theorem fl_X11_79 : FL 0 RX11 79 3 3 (0, 0, 0, 0) .int false := ⟨by decide, ⟨_, rfl, rfl⟩, RX5, TX5, 11, tyX5, clk_3, by decide, w_1_205, rfl, rfl⟩
theorem w_1_207 : (.fieldLink RX11 80 "PlateRunner$Reader" "faultAt" "I" : Cond) ∈ UW := um (tb_1 _ (List.mem_of_getElem? (i := 207) (by decide +kernel))) (by decide +kernel)
theorem fl_X11_80 : FL 0 RX11 80 3 4 (0, 0, 0, 0) .int false := ⟨by decide, ⟨_, rfl, rfl⟩, RX5, TX5, 11, tyX5, clk_3, by decide, w_1_207, rfl, rfl⟩
theorem w_1_48 : (.fieldLink RX11 89 "PlateRunner$Stage" "speed" "I" : Cond) ∈ UW := um (tb_1 _ (List.mem_of_getElem? (i := 48) (by decide +kernel))) (by decide +kernel)
theorem fl_X11_89 : FL 0 RX11 89 6 0 (0, 0, 0, 0) .int false := ⟨by decide, ⟨_, rfl, rfl⟩, RX8, TX8, 6, tyX8, clk_6, by decide, w_1_48, rfl, rfl⟩
theorem w_1_55 : (.fieldLink RX11 94 "PlateRunner$Stage" "start" "I" : Cond) ∈ UW := um (tb_1 _ (List.mem_of_getElem? (i := 55) (by decide +kernel))) (by decide +kernel)
theorem fl_X11_94 : FL 0 RX11 94 6 1 (0, 0, 0, 0) .int false := ⟨by decide, ⟨_, rfl, rfl⟩, RX8, TX8, 6, tyX8, clk_6, by decide, w_1_55, rfl, rfl⟩
theorem w_1_65 : (.fieldLink RX11 97 "PlateRunner$Stage" "plates" "I" : Cond) ∈ UW := um (tb_1 _ (List.mem_of_getElem? (i := 65) (by decide +kernel))) (by decide +kernel)
theorem fl_X11_97 : FL 0 RX11 97 6 2 (0, 0, 0, 0) .int false := ⟨by decide, ⟨_, rfl, rfl⟩, RX8, TX8, 6, tyX8, clk_6, by decide, w_1_65, rfl, rfl⟩
theorem w_1_107 : (.fieldLink RX11 108 "PlateRunner$Show" "deeds" "I" : Cond) ∈ UW := um (tb_1 _ (List.mem_of_getElem? (i := 107) (by decide +kernel))) (by decide +kernel)
theorem fl_X11_108 : FL 0 RX11 108 5 0 (0, 0, 0, 0) .int false := ⟨by decide, ⟨_, rfl, rfl⟩, RX7, TX7, 3, tyX7, clk_5, by decide, w_1_107, rfl, rfl⟩
theorem w_1_110 : (.fieldLink RX11 117 "PlateRunner$Show" "kind" "[I" : Cond) ∈ UW := um (tb_1 _ (List.mem_of_getElem? (i := 110) (by decide +kernel))) (by decide +kernel)
theorem fl_X11_117 : FL 0 RX11 117 5 1 (2, 31, 1, 0) (.array .int) true := ⟨by decide, ⟨_, rfl, rfl⟩, RX7, TX7, 3, tyX7, clk_5, by decide, w_1_110, rfl, rfl⟩
theorem w_1_113 : (.fieldLink RX11 121 "PlateRunner$Show" "plate" "[I" : Cond) ∈ UW := um (tb_1 _ (List.mem_of_getElem? (i := 113) (by decide +kernel))) (by decide +kernel)
theorem fl_X11_121 : FL 0 RX11 121 5 2 (2, 32, 1, 0) (.array .int) true := ⟨by decide, ⟨_, rfl, rfl⟩, RX7, TX7, 3, tyX7, clk_5, by decide, w_1_113, rfl, rfl⟩
theorem w_1_84 : (.fieldLink RX11 196 "PlateRunner$Stage" "left" "[I" : Cond) ∈ UW := um (tb_1 _ (List.mem_of_getElem? (i := 84) (by decide +kernel))) (by decide +kernel)
theorem fl_X11_196 : FL 0 RX11 196 6 5 (2, 35, 1, 0) (.array .int) true := ⟨by decide, ⟨_, rfl, rfl⟩, RX8, TX8, 6, tyX8, clk_6, by decide, w_1_84, rfl, rfl⟩
theorem w_1_128 : (.fieldLink RX11 218 "PlateRunner$Log" "runs" "I" : Cond) ∈ UW := um (tb_1 _ (List.mem_of_getElem? (i := 128) (by decide +kernel))) (by decide +kernel)
theorem fl_X11_218 : FL 0 RX11 218 1 0 (0, 0, 0, 0) .int false := ⟨by decide, ⟨_, rfl, rfl⟩, RX3, TX3, 5, tyX3, clk_1, by decide, w_1_128, rfl, rfl⟩
theorem w_1_132 : (.fieldLink RX11 223 "PlateRunner$Log" "facts" "I" : Cond) ∈ UW := um (tb_1 _ (List.mem_of_getElem? (i := 132) (by decide +kernel))) (by decide +kernel)
theorem fl_X11_223 : FL 0 RX11 223 1 1 (0, 0, 0, 0) .int false := ⟨by decide, ⟨_, rfl, rfl⟩, RX3, TX3, 5, tyX3, clk_1, by decide, w_1_132, rfl, rfl⟩
theorem w_2_135 : (.fieldLink RX11 233 "PlateRunner$Rows" "fitting" "I" : Cond) ∈ UW := um (tb_2 _ (List.mem_of_getElem? (i := 135) (by decide +kernel))) (by decide +kernel)
theorem fl_X11_233 : FL 0 RX11 233 4 0 (0, 0, 0, 0) .int false := ⟨by decide, ⟨_, rfl, rfl⟩, RX6, TX6, 11, tyX6, clk_4, by decide, w_2_135, rfl, rfl⟩
theorem w_2_137 : (.fieldLink RX11 242 "PlateRunner$Rows" "asked" "I" : Cond) ∈ UW := um (tb_2 _ (List.mem_of_getElem? (i := 137) (by decide +kernel))) (by decide +kernel)
theorem fl_X11_242 : FL 0 RX11 242 4 1 (0, 0, 0, 0) .int false := ⟨by decide, ⟨_, rfl, rfl⟩, RX6, TX6, 11, tyX6, clk_4, by decide, w_2_137, rfl, rfl⟩
theorem w_2_15 : (.fieldLink RX11 291 "PlateRunner$Player" "firstFell" "I" : Cond) ∈ UW := um (tb_2 _ (List.mem_of_getElem? (i := 15) (by decide +kernel))) (by decide +kernel)
theorem fl_X11_291 : FL 0 RX11 291 2 8 (0, 0, 0, 0) .int false := ⟨by decide, ⟨_, rfl, rfl⟩, RX4, TX4, 13, tyX4, clk_2, by decide, w_2_15, rfl, rfl⟩
theorem w_2_17 : (.fieldLink RX11 294 "PlateRunner$Player" "vain" "I" : Cond) ∈ UW := um (tb_2 _ (List.mem_of_getElem? (i := 17) (by decide +kernel))) (by decide +kernel)
theorem fl_X11_294 : FL 0 RX11 294 2 9 (0, 0, 0, 0) .int false := ⟨by decide, ⟨_, rfl, rfl⟩, RX4, TX4, 13, tyX4, clk_2, by decide, w_2_17, rfl, rfl⟩
theorem w_2_19 : (.fieldLink RX11 300 "PlateRunner$Player" "longest" "I" : Cond) ∈ UW := um (tb_2 _ (List.mem_of_getElem? (i := 19) (by decide +kernel))) (by decide +kernel)
theorem fl_X11_300 : FL 0 RX11 300 2 10 (0, 0, 0, 0) .int false := ⟨by decide, ⟨_, rfl, rfl⟩, RX4, TX4, 13, tyX4, clk_2, by decide, w_2_19, rfl, rfl⟩
theorem w_2_21 : (.fieldLink RX11 303 "PlateRunner$Player" "ways" "I" : Cond) ∈ UW := um (tb_2 _ (List.mem_of_getElem? (i := 21) (by decide +kernel))) (by decide +kernel)
theorem fl_X11_303 : FL 0 RX11 303 2 11 (0, 0, 0, 0) .int false := ⟨by decide, ⟨_, rfl, rfl⟩, RX4, TX4, 13, tyX4, clk_2, by decide, w_2_21, rfl, rfl⟩
theorem w_2_23 : (.fieldLink RX11 306 "PlateRunner$Player" "most" "I" : Cond) ∈ UW := um (tb_2 _ (List.mem_of_getElem? (i := 23) (by decide +kernel))) (by decide +kernel)
theorem fl_X11_306 : FL 0 RX11 306 2 12 (0, 0, 0, 0) .int false := ⟨by decide, ⟨_, rfl, rfl⟩, RX4, TX4, 13, tyX4, clk_2, by decide, w_2_23, rfl, rfl⟩
theorem w_2_139 : (.fieldLink RX11 309 "PlateRunner$Rows" "fewestBeats" "I" : Cond) ∈ UW := um (tb_2 _ (List.mem_of_getElem? (i := 139) (by decide +kernel))) (by decide +kernel)
theorem fl_X11_309 : FL 0 RX11 309 4 2 (0, 0, 0, 0) .int false := ⟨by decide, ⟨_, rfl, rfl⟩, RX6, TX6, 11, tyX6, clk_4, by decide, w_2_139, rfl, rfl⟩
theorem w_2_141 : (.fieldLink RX11 312 "PlateRunner$Rows" "mostBeats" "I" : Cond) ∈ UW := um (tb_2 _ (List.mem_of_getElem? (i := 141) (by decide +kernel))) (by decide +kernel)
theorem fl_X11_312 : FL 0 RX11 312 4 3 (0, 0, 0, 0) .int false := ⟨by decide, ⟨_, rfl, rfl⟩, RX6, TX6, 11, tyX6, clk_4, by decide, w_2_141, rfl, rfl⟩
theorem w_2_143 : (.fieldLink RX11 315 "PlateRunner$Rows" "mostUp" "I" : Cond) ∈ UW := um (tb_2 _ (List.mem_of_getElem? (i := 143) (by decide +kernel))) (by decide +kernel)
theorem fl_X11_315 : FL 0 RX11 315 4 4 (0, 0, 0, 0) .int false := ⟨by decide, ⟨_, rfl, rfl⟩, RX6, TX6, 11, tyX6, clk_4, by decide, w_2_143, rfl, rfl⟩
theorem w_1_161 : (.fieldLink RX11 319 "PlateRunner$Told" "counts" "[I" : Cond) ∈ UW := um (tb_1 _ (List.mem_of_getElem? (i := 161) (by decide +kernel))) (by decide +kernel)
theorem fl_X11_319 : FL 0 RX11 319 7 4 (2, 37, 1, 0) (.array .int) true := ⟨by decide, ⟨_, rfl, rfl⟩, RX9, TX9, 8, tyX9, clk_7, by decide, w_1_161, rfl, rfl⟩
theorem w_1_163 : (.fieldLink RX11 326 "PlateRunner$Told" "stages" "[LPlateRunner$Stage;" : Cond) ∈ UW := um (tb_1 _ (List.mem_of_getElem? (i := 163) (by decide +kernel))) (by decide +kernel)
theorem fl_X11_326 : FL 0 RX11 326 7 5 (2, 38, 1, 0) (.array (.object "PlateRunner$Stage")) true := ⟨by decide, ⟨_, rfl, rfl⟩, RX9, TX9, 8, tyX9, clk_7, by decide, w_1_163, rfl, rfl⟩
theorem w_1_199 : (.fieldLink RX11 330 "PlateRunner$Reader" "stage" "LPlateRunner$Stage;" : Cond) ∈ UW := um (tb_1 _ (List.mem_of_getElem? (i := 199) (by decide +kernel))) (by decide +kernel)
theorem fl_X11_330 : FL 0 RX11 330 3 0 (2, 6, 0, 8) (.object "PlateRunner$Stage") true := ⟨by decide, ⟨_, rfl, rfl⟩, RX5, TX5, 11, tyX5, clk_3, by decide, w_1_199, rfl, rfl⟩
theorem w_1_165 : (.fieldLink RX11 336 "PlateRunner$Told" "shows" "[LPlateRunner$Show;" : Cond) ∈ UW := um (tb_1 _ (List.mem_of_getElem? (i := 165) (by decide +kernel))) (by decide +kernel)
theorem fl_X11_336 : FL 0 RX11 336 7 6 (2, 39, 1, 0) (.array (.object "PlateRunner$Show")) true := ⟨by decide, ⟨_, rfl, rfl⟩, RX9, TX9, 8, tyX9, clk_7, by decide, w_1_165, rfl, rfl⟩
theorem w_1_201 : (.fieldLink RX11 340 "PlateRunner$Reader" "show" "LPlateRunner$Show;" : Cond) ∈ UW := um (tb_1 _ (List.mem_of_getElem? (i := 201) (by decide +kernel))) (by decide +kernel)
theorem fl_X11_340 : FL 0 RX11 340 3 1 (2, 5, 0, 8) (.object "PlateRunner$Show") true := ⟨by decide, ⟨_, rfl, rfl⟩, RX5, TX5, 11, tyX5, clk_3, by decide, w_1_201, rfl, rfl⟩
theorem w_1_167 : (.fieldLink RX11 347 "PlateRunner$Told" "logs" "[LPlateRunner$Log;" : Cond) ∈ UW := um (tb_1 _ (List.mem_of_getElem? (i := 167) (by decide +kernel))) (by decide +kernel)
theorem fl_X11_347 : FL 0 RX11 347 7 7 (2, 40, 1, 0) (.array (.object "PlateRunner$Log")) true := ⟨by decide, ⟨_, rfl, rfl⟩, RX9, TX9, 8, tyX9, clk_7, by decide, w_1_167, rfl, rfl⟩
theorem w_1_203 : (.fieldLink RX11 351 "PlateRunner$Reader" "log" "LPlateRunner$Log;" : Cond) ∈ UW := um (tb_1 _ (List.mem_of_getElem? (i := 203) (by decide +kernel))) (by decide +kernel)
theorem fl_X11_351 : FL 0 RX11 351 3 2 (2, 1, 0, 8) (.object "PlateRunner$Log") true := ⟨by decide, ⟨_, rfl, rfl⟩, RX5, TX5, 11, tyX5, clk_3, by decide, w_1_203, rfl, rfl⟩
theorem w_1_64 : (.fieldLink RX0 20 "PlateRunner$Stage" "plates" "I" : Cond) ∈ UW := um (tb_1 _ (List.mem_of_getElem? (i := 64) (by decide +kernel))) (by decide +kernel)
theorem fl_X0_20 : FL 0 RX0 20 6 2 (0, 0, 0, 0) .int false := ⟨by decide, ⟨_, rfl, rfl⟩, RX8, TX8, 6, tyX8, clk_6, by decide, w_1_64, rfl, rfl⟩
theorem w_1_70 : (.fieldLink RX0 29 "PlateRunner$Stage" "place" "[I" : Cond) ∈ UW := um (tb_1 _ (List.mem_of_getElem? (i := 70) (by decide +kernel))) (by decide +kernel)
theorem fl_X0_29 : FL 0 RX0 29 6 3 (2, 33, 1, 0) (.array .int) true := ⟨by decide, ⟨_, rfl, rfl⟩, RX8, TX8, 6, tyX8, clk_6, by decide, w_1_70, rfl, rfl⟩
theorem w_1_78 : (.fieldLink RX0 39 "PlateRunner$Stage" "life" "[I" : Cond) ∈ UW := um (tb_1 _ (List.mem_of_getElem? (i := 78) (by decide +kernel))) (by decide +kernel)
theorem fl_X0_39 : FL 0 RX0 39 6 4 (2, 34, 1, 0) (.array .int) true := ⟨by decide, ⟨_, rfl, rfl⟩, RX8, TX8, 6, tyX8, clk_6, by decide, w_1_78, rfl, rfl⟩
theorem w_1_57 : (.fieldLink RX0 46 "PlateRunner$Stage" "start" "I" : Cond) ∈ UW := um (tb_1 _ (List.mem_of_getElem? (i := 57) (by decide +kernel))) (by decide +kernel)
theorem fl_X0_46 : FL 0 RX0 46 6 1 (0, 0, 0, 0) .int false := ⟨by decide, ⟨_, rfl, rfl⟩, RX8, TX8, 6, tyX8, clk_6, by decide, w_1_57, rfl, rfl⟩
theorem w_1_52 : (.fieldLink RX1 11 "PlateRunner$Stage" "start" "I" : Cond) ∈ UW := um (tb_1 _ (List.mem_of_getElem? (i := 52) (by decide +kernel))) (by decide +kernel)
theorem fl_X1_11 : FL 0 RX1 11 6 1 (0, 0, 0, 0) .int false := ⟨by decide, ⟨_, rfl, rfl⟩, RX8, TX8, 6, tyX8, clk_6, by decide, w_1_52, rfl, rfl⟩
theorem w_1_66 : (.fieldLink RX1 43 "PlateRunner$Stage" "plates" "I" : Cond) ∈ UW := um (tb_1 _ (List.mem_of_getElem? (i := 66) (by decide +kernel))) (by decide +kernel)
theorem fl_X1_43 : FL 0 RX1 43 6 2 (0, 0, 0, 0) .int false := ⟨by decide, ⟨_, rfl, rfl⟩, RX8, TX8, 6, tyX8, clk_6, by decide, w_1_66, rfl, rfl⟩
theorem w_1_71 : (.fieldLink RX1 49 "PlateRunner$Stage" "place" "[I" : Cond) ∈ UW := um (tb_1 _ (List.mem_of_getElem? (i := 71) (by decide +kernel))) (by decide +kernel)
theorem fl_X1_49 : FL 0 RX1 49 6 3 (2, 33, 1, 0) (.array .int) true := ⟨by decide, ⟨_, rfl, rfl⟩, RX8, TX8, 6, tyX8, clk_6, by decide, w_1_71, rfl, rfl⟩
theorem w_2_65 : (.fieldLink RX2 12 "PlateRunner$Keeper" "stage" "LPlateRunner$Stage;" : Cond) ∈ UW := um (tb_2 _ (List.mem_of_getElem? (i := 65) (by decide +kernel))) (by decide +kernel)
theorem fl_X2_12 : FL 0 RX2 12 0 0 (2, 6, 0, 10) (.object "PlateRunner$Stage") true := ⟨by decide, ⟨_, rfl, rfl⟩, RX2, TX2, 17, tyX2, clk_0, by decide, w_2_65, rfl, rfl⟩
theorem w_2_66 : (.fieldLink RX2 18 "PlateRunner$Keeper" "whole" "Z" : Cond) ∈ UW := um (tb_2 _ (List.mem_of_getElem? (i := 66) (by decide +kernel))) (by decide +kernel)
theorem fl_X2_18 : FL 0 RX2 18 0 1 (0, 0, 0, 0) .boolean false := ⟨by decide, ⟨_, rfl, rfl⟩, RX2, TX2, 17, tyX2, clk_0, by decide, w_2_66, rfl, rfl⟩
theorem w_2_67 : (.fieldLink RX2 22 "PlateRunner$Keeper" "stands" "I" : Cond) ∈ UW := um (tb_2 _ (List.mem_of_getElem? (i := 67) (by decide +kernel))) (by decide +kernel)
theorem fl_X2_22 : FL 0 RX2 22 0 2 (0, 0, 0, 0) .int false := ⟨by decide, ⟨_, rfl, rfl⟩, RX2, TX2, 17, tyX2, clk_0, by decide, w_2_67, rfl, rfl⟩
theorem w_2_68 : (.fieldLink RX2 26 "PlateRunner$Keeper" "depth" "I" : Cond) ∈ UW := um (tb_2 _ (List.mem_of_getElem? (i := 68) (by decide +kernel))) (by decide +kernel)
theorem fl_X2_26 : FL 0 RX2 26 0 3 (0, 0, 0, 0) .int false := ⟨by decide, ⟨_, rfl, rfl⟩, RX2, TX2, 17, tyX2, clk_0, by decide, w_2_68, rfl, rfl⟩
theorem w_2_69 : (.fieldLink RX2 29 "PlateRunner$Keeper" "ahead" "I" : Cond) ∈ UW := um (tb_2 _ (List.mem_of_getElem? (i := 69) (by decide +kernel))) (by decide +kernel)
theorem fl_X2_29 : FL 0 RX2 29 0 4 (0, 0, 0, 0) .int false := ⟨by decide, ⟨_, rfl, rfl⟩, RX2, TX2, 17, tyX2, clk_0, by decide, w_2_69, rfl, rfl⟩
theorem w_2_70 : (.fieldLink RX2 32 "PlateRunner$Keeper" "round" "I" : Cond) ∈ UW := um (tb_2 _ (List.mem_of_getElem? (i := 70) (by decide +kernel))) (by decide +kernel)
theorem fl_X2_32 : FL 0 RX2 32 0 5 (0, 0, 0, 0) .int false := ⟨by decide, ⟨_, rfl, rfl⟩, RX2, TX2, 17, tyX2, clk_0, by decide, w_2_70, rfl, rfl⟩
theorem w_2_71 : (.fieldLink RX2 35 "PlateRunner$Keeper" "roundBeats" "I" : Cond) ∈ UW := um (tb_2 _ (List.mem_of_getElem? (i := 71) (by decide +kernel))) (by decide +kernel)
theorem fl_X2_35 : FL 0 RX2 35 0 6 (0, 0, 0, 0) .int false := ⟨by decide, ⟨_, rfl, rfl⟩, RX2, TX2, 17, tyX2, clk_0, by decide, w_2_71, rfl, rfl⟩
theorem w_2_72 : (.fieldLink RX2 38 "PlateRunner$Keeper" "inSlot" "[S" : Cond) ∈ UW := um (tb_2 _ (List.mem_of_getElem? (i := 72) (by decide +kernel))) (by decide +kernel)
theorem fl_X2_38 : FL 0 RX2 38 0 7 (2, 11, 0, 0) (.array .short) true := ⟨by decide, ⟨_, rfl, rfl⟩, RX2, TX2, 17, tyX2, clk_0, by decide, w_2_72, rfl, rfl⟩
theorem w_2_73 : (.fieldLink RX2 42 "PlateRunner$Keeper" "whereOf" "[B" : Cond) ∈ UW := um (tb_2 _ (List.mem_of_getElem? (i := 73) (by decide +kernel))) (by decide +kernel)
theorem fl_X2_42 : FL 0 RX2 42 0 8 (2, 12, 0, 0) (.array .byte) true := ⟨by decide, ⟨_, rfl, rfl⟩, RX2, TX2, 17, tyX2, clk_0, by decide, w_2_73, rfl, rfl⟩
theorem w_2_74 : (.fieldLink RX2 46 "PlateRunner$Keeper" "leftsOf" "[S" : Cond) ∈ UW := um (tb_2 _ (List.mem_of_getElem? (i := 74) (by decide +kernel))) (by decide +kernel)
theorem fl_X2_46 : FL 0 RX2 46 0 9 (2, 13, 0, 0) (.array .short) true := ⟨by decide, ⟨_, rfl, rfl⟩, RX2, TX2, 17, tyX2, clk_0, by decide, w_2_74, rfl, rfl⟩
theorem w_2_75 : (.fieldLink RX2 49 "PlateRunner$Keeper" "mark" "[B" : Cond) ∈ UW := um (tb_2 _ (List.mem_of_getElem? (i := 75) (by decide +kernel))) (by decide +kernel)
theorem fl_X2_49 : FL 0 RX2 49 0 10 (2, 14, 0, 0) (.array .byte) true := ⟨by decide, ⟨_, rfl, rfl⟩, RX2, TX2, 17, tyX2, clk_0, by decide, w_2_75, rfl, rfl⟩
theorem w_2_76 : (.fieldLink RX2 52 "PlateRunner$Keeper" "tried" "[B" : Cond) ∈ UW := um (tb_2 _ (List.mem_of_getElem? (i := 76) (by decide +kernel))) (by decide +kernel)
theorem fl_X2_52 : FL 0 RX2 52 0 11 (2, 15, 0, 0) (.array .byte) true := ⟨by decide, ⟨_, rfl, rfl⟩, RX2, TX2, 17, tyX2, clk_0, by decide, w_2_76, rfl, rfl⟩
theorem w_2_77 : (.fieldLink RX2 55 "PlateRunner$Keeper" "lasts" "[S" : Cond) ∈ UW := um (tb_2 _ (List.mem_of_getElem? (i := 77) (by decide +kernel))) (by decide +kernel)
theorem fl_X2_55 : FL 0 RX2 55 0 12 (2, 16, 0, 0) (.array .short) true := ⟨by decide, ⟨_, rfl, rfl⟩, RX2, TX2, 17, tyX2, clk_0, by decide, w_2_77, rfl, rfl⟩
theorem w_2_78 : (.fieldLink RX2 58 "PlateRunner$Keeper" "open" "[S" : Cond) ∈ UW := um (tb_2 _ (List.mem_of_getElem? (i := 78) (by decide +kernel))) (by decide +kernel)
theorem fl_X2_58 : FL 0 RX2 58 0 13 (2, 17, 0, 0) (.array .short) true := ⟨by decide, ⟨_, rfl, rfl⟩, RX2, TX2, 17, tyX2, clk_0, by decide, w_2_78, rfl, rfl⟩
theorem w_2_79 : (.fieldLink RX2 61 "PlateRunner$Keeper" "follower" "[S" : Cond) ∈ UW := um (tb_2 _ (List.mem_of_getElem? (i := 79) (by decide +kernel))) (by decide +kernel)
theorem fl_X2_61 : FL 0 RX2 61 0 14 (2, 18, 0, 0) (.array .short) true := ⟨by decide, ⟨_, rfl, rfl⟩, RX2, TX2, 17, tyX2, clk_0, by decide, w_2_79, rfl, rfl⟩
theorem w_2_80 : (.fieldLink RX2 64 "PlateRunner$Keeper" "stepOf" "[S" : Cond) ∈ UW := um (tb_2 _ (List.mem_of_getElem? (i := 80) (by decide +kernel))) (by decide +kernel)
theorem fl_X2_64 : FL 0 RX2 64 0 15 (2, 19, 0, 0) (.array .short) true := ⟨by decide, ⟨_, rfl, rfl⟩, RX2, TX2, 17, tyX2, clk_0, by decide, w_2_80, rfl, rfl⟩
theorem w_2_81 : (.fieldLink RX2 67 "PlateRunner$Keeper" "beatsOf" "[S" : Cond) ∈ UW := um (tb_2 _ (List.mem_of_getElem? (i := 81) (by decide +kernel))) (by decide +kernel)
theorem fl_X2_67 : FL 0 RX2 67 0 16 (2, 20, 0, 0) (.array .short) true := ⟨by decide, ⟨_, rfl, rfl⟩, RX2, TX2, 17, tyX2, clk_0, by decide, w_2_81, rfl, rfl⟩
theorem w_1_62 : (.fieldLink RX2 98 "PlateRunner$Stage" "plates" "I" : Cond) ∈ UW := um (tb_1 _ (List.mem_of_getElem? (i := 62) (by decide +kernel))) (by decide +kernel)
theorem fl_X2_98 : FL 0 RX2 98 6 2 (0, 0, 0, 0) .int false := ⟨by decide, ⟨_, rfl, rfl⟩, RX8, TX8, 6, tyX8, clk_6, by decide, w_1_62, rfl, rfl⟩
theorem w_1_73 : (.fieldLink RX2 132 "PlateRunner$Stage" "place" "[I" : Cond) ∈ UW := um (tb_1 _ (List.mem_of_getElem? (i := 73) (by decide +kernel))) (by decide +kernel)
theorem fl_X2_132 : FL 0 RX2 132 6 3 (2, 33, 1, 0) (.array .int) true := ⟨by decide, ⟨_, rfl, rfl⟩, RX8, TX8, 6, tyX8, clk_6, by decide, w_1_73, rfl, rfl⟩
theorem w_1_56 : (.fieldLink RX2 136 "PlateRunner$Stage" "start" "I" : Cond) ∈ UW := um (tb_1 _ (List.mem_of_getElem? (i := 56) (by decide +kernel))) (by decide +kernel)
theorem fl_X2_136 : FL 0 RX2 136 6 1 (0, 0, 0, 0) .int false := ⟨by decide, ⟨_, rfl, rfl⟩, RX8, TX8, 6, tyX8, clk_6, by decide, w_1_56, rfl, rfl⟩
theorem w_1_126 : (.fieldLink RX3 9 "PlateRunner$Log" "runs" "I" : Cond) ∈ UW := um (tb_1 _ (List.mem_of_getElem? (i := 126) (by decide +kernel))) (by decide +kernel)
theorem fl_X3_9 : FL 0 RX3 9 1 0 (0, 0, 0, 0) .int false := ⟨by decide, ⟨_, rfl, rfl⟩, RX3, TX3, 5, tyX3, clk_1, by decide, w_1_126, rfl, rfl⟩
theorem w_1_130 : (.fieldLink RX3 15 "PlateRunner$Log" "facts" "I" : Cond) ∈ UW := um (tb_1 _ (List.mem_of_getElem? (i := 130) (by decide +kernel))) (by decide +kernel)
theorem fl_X3_15 : FL 0 RX3 15 1 1 (0, 0, 0, 0) .int false := ⟨by decide, ⟨_, rfl, rfl⟩, RX3, TX3, 5, tyX3, clk_1, by decide, w_1_130, rfl, rfl⟩
theorem w_1_134 : (.fieldLink RX3 18 "PlateRunner$Log" "stood" "[I" : Cond) ∈ UW := um (tb_1 _ (List.mem_of_getElem? (i := 134) (by decide +kernel))) (by decide +kernel)
theorem fl_X3_18 : FL 0 RX3 18 1 2 (2, 21, 1, 0) (.array .int) true := ⟨by decide, ⟨_, rfl, rfl⟩, RX3, TX3, 5, tyX3, clk_1, by decide, w_1_134, rfl, rfl⟩
theorem w_1_136 : (.fieldLink RX3 22 "PlateRunner$Log" "plate" "[I" : Cond) ∈ UW := um (tb_1 _ (List.mem_of_getElem? (i := 136) (by decide +kernel))) (by decide +kernel)
theorem fl_X3_22 : FL 0 RX3 22 1 3 (2, 22, 1, 0) (.array .int) true := ⟨by decide, ⟨_, rfl, rfl⟩, RX3, TX3, 5, tyX3, clk_1, by decide, w_1_136, rfl, rfl⟩
theorem w_1_138 : (.fieldLink RX3 25 "PlateRunner$Log" "beats" "[I" : Cond) ∈ UW := um (tb_1 _ (List.mem_of_getElem? (i := 138) (by decide +kernel))) (by decide +kernel)
theorem fl_X3_25 : FL 0 RX3 25 1 4 (2, 23, 1, 0) (.array .int) true := ⟨by decide, ⟨_, rfl, rfl⟩, RX3, TX3, 5, tyX3, clk_1, by decide, w_1_138, rfl, rfl⟩
theorem w_2_6 : (.fieldLink RX4 12 "PlateRunner$Player" "now" "LPlateRunner$Stage;" : Cond) ∈ UW := um (tb_2 _ (List.mem_of_getElem? (i := 6) (by decide +kernel))) (by decide +kernel)
theorem fl_X4_12 : FL 0 RX4 12 2 0 (2, 6, 0, 9) (.object "PlateRunner$Stage") true := ⟨by decide, ⟨_, rfl, rfl⟩, RX4, TX4, 13, tyX4, clk_2, by decide, w_2_6, rfl, rfl⟩
theorem w_2_7 : (.fieldLink RX4 18 "PlateRunner$Player" "spunBy" "[I" : Cond) ∈ UW := um (tb_2 _ (List.mem_of_getElem? (i := 7) (by decide +kernel))) (by decide +kernel)
theorem fl_X4_18 : FL 0 RX4 18 2 1 (2, 24, 0, 0) (.array .int) true := ⟨by decide, ⟨_, rfl, rfl⟩, RX4, TX4, 13, tyX4, clk_2, by decide, w_2_7, rfl, rfl⟩
theorem w_2_8 : (.fieldLink RX4 22 "PlateRunner$Player" "at" "I" : Cond) ∈ UW := um (tb_2 _ (List.mem_of_getElem? (i := 8) (by decide +kernel))) (by decide +kernel)
theorem fl_X4_22 : FL 0 RX4 22 2 2 (0, 0, 0, 0) .int false := ⟨by decide, ⟨_, rfl, rfl⟩, RX4, TX4, 13, tyX4, clk_2, by decide, w_2_8, rfl, rfl⟩
theorem w_2_9 : (.fieldLink RX4 26 "PlateRunner$Player" "beats" "I" : Cond) ∈ UW := um (tb_2 _ (List.mem_of_getElem? (i := 9) (by decide +kernel))) (by decide +kernel)
theorem fl_X4_26 : FL 0 RX4 26 2 3 (0, 0, 0, 0) .int false := ⟨by decide, ⟨_, rfl, rfl⟩, RX4, TX4, 13, tyX4, clk_2, by decide, w_2_9, rfl, rfl⟩
theorem w_2_10 : (.fieldLink RX4 29 "PlateRunner$Player" "fell" "I" : Cond) ∈ UW := um (tb_2 _ (List.mem_of_getElem? (i := 10) (by decide +kernel))) (by decide +kernel)
theorem fl_X4_29 : FL 0 RX4 29 2 4 (0, 0, 0, 0) .int false := ⟨by decide, ⟨_, rfl, rfl⟩, RX4, TX4, 13, tyX4, clk_2, by decide, w_2_10, rfl, rfl⟩
theorem w_2_11 : (.fieldLink RX4 32 "PlateRunner$Player" "spun" "I" : Cond) ∈ UW := um (tb_2 _ (List.mem_of_getElem? (i := 11) (by decide +kernel))) (by decide +kernel)
theorem fl_X4_32 : FL 0 RX4 32 2 5 (0, 0, 0, 0) .int false := ⟨by decide, ⟨_, rfl, rfl⟩, RX4, TX4, 13, tyX4, clk_2, by decide, w_2_11, rfl, rfl⟩
theorem w_2_12 : (.fieldLink RX4 35 "PlateRunner$Player" "quiet" "I" : Cond) ∈ UW := um (tb_2 _ (List.mem_of_getElem? (i := 12) (by decide +kernel))) (by decide +kernel)
theorem fl_X4_35 : FL 0 RX4 35 2 6 (0, 0, 0, 0) .int false := ⟨by decide, ⟨_, rfl, rfl⟩, RX4, TX4, 13, tyX4, clk_2, by decide, w_2_12, rfl, rfl⟩
theorem w_2_13 : (.fieldLink RX4 38 "PlateRunner$Player" "seed" "I" : Cond) ∈ UW := um (tb_2 _ (List.mem_of_getElem? (i := 13) (by decide +kernel))) (by decide +kernel)
theorem fl_X4_38 : FL 0 RX4 38 2 7 (0, 0, 0, 0) .int false := ⟨by decide, ⟨_, rfl, rfl⟩, RX4, TX4, 13, tyX4, clk_2, by decide, w_2_13, rfl, rfl⟩
theorem w_2_14 : (.fieldLink RX4 41 "PlateRunner$Player" "firstFell" "I" : Cond) ∈ UW := um (tb_2 _ (List.mem_of_getElem? (i := 14) (by decide +kernel))) (by decide +kernel)
theorem fl_X4_41 : FL 0 RX4 41 2 8 (0, 0, 0, 0) .int false := ⟨by decide, ⟨_, rfl, rfl⟩, RX4, TX4, 13, tyX4, clk_2, by decide, w_2_14, rfl, rfl⟩
theorem w_2_16 : (.fieldLink RX4 44 "PlateRunner$Player" "vain" "I" : Cond) ∈ UW := um (tb_2 _ (List.mem_of_getElem? (i := 16) (by decide +kernel))) (by decide +kernel)
theorem fl_X4_44 : FL 0 RX4 44 2 9 (0, 0, 0, 0) .int false := ⟨by decide, ⟨_, rfl, rfl⟩, RX4, TX4, 13, tyX4, clk_2, by decide, w_2_16, rfl, rfl⟩
theorem w_2_18 : (.fieldLink RX4 47 "PlateRunner$Player" "longest" "I" : Cond) ∈ UW := um (tb_2 _ (List.mem_of_getElem? (i := 18) (by decide +kernel))) (by decide +kernel)
theorem fl_X4_47 : FL 0 RX4 47 2 10 (0, 0, 0, 0) .int false := ⟨by decide, ⟨_, rfl, rfl⟩, RX4, TX4, 13, tyX4, clk_2, by decide, w_2_18, rfl, rfl⟩
theorem w_2_20 : (.fieldLink RX4 50 "PlateRunner$Player" "ways" "I" : Cond) ∈ UW := um (tb_2 _ (List.mem_of_getElem? (i := 20) (by decide +kernel))) (by decide +kernel)
theorem fl_X4_50 : FL 0 RX4 50 2 11 (0, 0, 0, 0) .int false := ⟨by decide, ⟨_, rfl, rfl⟩, RX4, TX4, 13, tyX4, clk_2, by decide, w_2_20, rfl, rfl⟩
theorem w_2_22 : (.fieldLink RX4 53 "PlateRunner$Player" "most" "I" : Cond) ∈ UW := um (tb_2 _ (List.mem_of_getElem? (i := 22) (by decide +kernel))) (by decide +kernel)
theorem fl_X4_53 : FL 0 RX4 53 2 12 (0, 0, 0, 0) .int false := ⟨by decide, ⟨_, rfl, rfl⟩, RX4, TX4, 13, tyX4, clk_2, by decide, w_2_22, rfl, rfl⟩
theorem w_1_109 : (.fieldLink RX4 66 "PlateRunner$Show" "kind" "[I" : Cond) ∈ UW := um (tb_1 _ (List.mem_of_getElem? (i := 109) (by decide +kernel))) (by decide +kernel)
theorem fl_X4_66 : FL 0 RX4 66 5 1 (2, 31, 1, 0) (.array .int) true := ⟨by decide, ⟨_, rfl, rfl⟩, RX7, TX7, 3, tyX7, clk_5, by decide, w_1_109, rfl, rfl⟩
theorem w_1_112 : (.fieldLink RX4 69 "PlateRunner$Show" "plate" "[I" : Cond) ∈ UW := um (tb_1 _ (List.mem_of_getElem? (i := 112) (by decide +kernel))) (by decide +kernel)
theorem fl_X4_69 : FL 0 RX4 69 5 2 (2, 32, 1, 0) (.array .int) true := ⟨by decide, ⟨_, rfl, rfl⟩, RX7, TX7, 3, tyX7, clk_5, by decide, w_1_112, rfl, rfl⟩
theorem w_1_61 : (.fieldLink RX4 87 "PlateRunner$Stage" "plates" "I" : Cond) ∈ UW := um (tb_1 _ (List.mem_of_getElem? (i := 61) (by decide +kernel))) (by decide +kernel)
theorem fl_X4_87 : FL 0 RX4 87 6 2 (0, 0, 0, 0) .int false := ⟨by decide, ⟨_, rfl, rfl⟩, RX8, TX8, 6, tyX8, clk_6, by decide, w_1_61, rfl, rfl⟩
theorem w_1_54 : (.fieldLink RX4 100 "PlateRunner$Stage" "start" "I" : Cond) ∈ UW := um (tb_1 _ (List.mem_of_getElem? (i := 54) (by decide +kernel))) (by decide +kernel)
theorem fl_X4_100 : FL 0 RX4 100 6 1 (0, 0, 0, 0) .int false := ⟨by decide, ⟨_, rfl, rfl⟩, RX8, TX8, 6, tyX8, clk_6, by decide, w_1_54, rfl, rfl⟩
theorem w_1_82 : (.fieldLink RX4 104 "PlateRunner$Stage" "left" "[I" : Cond) ∈ UW := um (tb_1 _ (List.mem_of_getElem? (i := 82) (by decide +kernel))) (by decide +kernel)
theorem fl_X4_104 : FL 0 RX4 104 6 5 (2, 35, 1, 0) (.array .int) true := ⟨by decide, ⟨_, rfl, rfl⟩, RX8, TX8, 6, tyX8, clk_6, by decide, w_1_82, rfl, rfl⟩
theorem w_1_72 : (.fieldLink RX4 107 "PlateRunner$Stage" "place" "[I" : Cond) ∈ UW := um (tb_1 _ (List.mem_of_getElem? (i := 72) (by decide +kernel))) (by decide +kernel)
theorem fl_X4_107 : FL 0 RX4 107 6 3 (2, 33, 1, 0) (.array .int) true := ⟨by decide, ⟨_, rfl, rfl⟩, RX8, TX8, 6, tyX8, clk_6, by decide, w_1_72, rfl, rfl⟩
theorem w_1_79 : (.fieldLink RX4 113 "PlateRunner$Stage" "life" "[I" : Cond) ∈ UW := um (tb_1 _ (List.mem_of_getElem? (i := 79) (by decide +kernel))) (by decide +kernel)
theorem fl_X4_113 : FL 0 RX4 113 6 4 (2, 34, 1, 0) (.array .int) true := ⟨by decide, ⟨_, rfl, rfl⟩, RX8, TX8, 6, tyX8, clk_6, by decide, w_1_79, rfl, rfl⟩
theorem w_1_198 : (.fieldLink RX5 12 "PlateRunner$Reader" "stage" "LPlateRunner$Stage;" : Cond) ∈ UW := um (tb_1 _ (List.mem_of_getElem? (i := 198) (by decide +kernel))) (by decide +kernel)
theorem fl_X5_12 : FL 0 RX5 12 3 0 (2, 6, 0, 8) (.object "PlateRunner$Stage") true := ⟨by decide, ⟨_, rfl, rfl⟩, RX5, TX5, 11, tyX5, clk_3, by decide, w_1_198, rfl, rfl⟩
theorem w_1_200 : (.fieldLink RX5 21 "PlateRunner$Reader" "show" "LPlateRunner$Show;" : Cond) ∈ UW := um (tb_1 _ (List.mem_of_getElem? (i := 200) (by decide +kernel))) (by decide +kernel)
theorem fl_X5_21 : FL 0 RX5 21 3 1 (2, 5, 0, 8) (.object "PlateRunner$Show") true := ⟨by decide, ⟨_, rfl, rfl⟩, RX5, TX5, 11, tyX5, clk_3, by decide, w_1_200, rfl, rfl⟩
theorem w_1_202 : (.fieldLink RX5 28 "PlateRunner$Reader" "log" "LPlateRunner$Log;" : Cond) ∈ UW := um (tb_1 _ (List.mem_of_getElem? (i := 202) (by decide +kernel))) (by decide +kernel)
theorem fl_X5_28 : FL 0 RX5 28 3 2 (2, 1, 0, 8) (.object "PlateRunner$Log") true := ⟨by decide, ⟨_, rfl, rfl⟩, RX5, TX5, 11, tyX5, clk_3, by decide, w_1_202, rfl, rfl⟩
theorem w_1_204 : (.fieldLink RX5 32 "PlateRunner$Reader" "fault" "I" : Cond) ∈ UW := um (tb_1 _ (List.mem_of_getElem? (i := 204) (by decide +kernel))) (by decide +kernel)
theorem fl_X5_32 : FL 0 RX5 32 3 3 (0, 0, 0, 0) .int false := ⟨by decide, ⟨_, rfl, rfl⟩, RX5, TX5, 11, tyX5, clk_3, by decide, w_1_204, rfl, rfl⟩
theorem w_1_206 : (.fieldLink RX5 36 "PlateRunner$Reader" "faultAt" "I" : Cond) ∈ UW := um (tb_1 _ (List.mem_of_getElem? (i := 206) (by decide +kernel))) (by decide +kernel)
theorem fl_X5_36 : FL 0 RX5 36 3 4 (0, 0, 0, 0) .int false := ⟨by decide, ⟨_, rfl, rfl⟩, RX5, TX5, 11, tyX5, clk_3, by decide, w_1_206, rfl, rfl⟩
theorem w_1_208 : (.fieldLink RX5 39 "PlateRunner$Reader" "tape" "[B" : Cond) ∈ UW := um (tb_1 _ (List.mem_of_getElem? (i := 208) (by decide +kernel))) (by decide +kernel)
theorem fl_X5_39 : FL 0 RX5 39 3 5 (3, 0, 0, 0) (.array .byte) false := ⟨by decide, ⟨_, rfl, rfl⟩, RX5, TX5, 11, tyX5, clk_3, by decide, w_1_208, rfl, rfl⟩
theorem w_1_209 : (.fieldLink RX5 43 "PlateRunner$Reader" "length" "I" : Cond) ∈ UW := um (tb_1 _ (List.mem_of_getElem? (i := 209) (by decide +kernel))) (by decide +kernel)
theorem fl_X5_43 : FL 0 RX5 43 3 6 (0, 0, 0, 0) .int false := ⟨by decide, ⟨_, rfl, rfl⟩, RX5, TX5, 11, tyX5, clk_3, by decide, w_1_209, rfl, rfl⟩
theorem w_1_210 : (.fieldLink RX5 46 "PlateRunner$Reader" "next" "I" : Cond) ∈ UW := um (tb_1 _ (List.mem_of_getElem? (i := 210) (by decide +kernel))) (by decide +kernel)
theorem fl_X5_46 : FL 0 RX5 46 3 7 (0, 0, 0, 0) .int false := ⟨by decide, ⟨_, rfl, rfl⟩, RX5, TX5, 11, tyX5, clk_3, by decide, w_1_210, rfl, rfl⟩
theorem w_1_211 : (.fieldLink RX5 49 "PlateRunner$Reader" "token" "I" : Cond) ∈ UW := um (tb_1 _ (List.mem_of_getElem? (i := 211) (by decide +kernel))) (by decide +kernel)
theorem fl_X5_49 : FL 0 RX5 49 3 8 (0, 0, 0, 0) .int false := ⟨by decide, ⟨_, rfl, rfl⟩, RX5, TX5, 11, tyX5, clk_3, by decide, w_1_211, rfl, rfl⟩
theorem w_1_212 : (.fieldLink RX5 52 "PlateRunner$Reader" "tokenAt" "I" : Cond) ∈ UW := um (tb_1 _ (List.mem_of_getElem? (i := 212) (by decide +kernel))) (by decide +kernel)
theorem fl_X5_52 : FL 0 RX5 52 3 9 (0, 0, 0, 0) .int false := ⟨by decide, ⟨_, rfl, rfl⟩, RX5, TX5, 11, tyX5, clk_3, by decide, w_1_212, rfl, rfl⟩
theorem w_1_213 : (.fieldLink RX5 55 "PlateRunner$Reader" "numbers" "[I" : Cond) ∈ UW := um (tb_1 _ (List.mem_of_getElem? (i := 213) (by decide +kernel))) (by decide +kernel)
theorem fl_X5_55 : FL 0 RX5 55 3 10 (2, 26, 0, 0) (.array .int) true := ⟨by decide, ⟨_, rfl, rfl⟩, RX5, TX5, 11, tyX5, clk_3, by decide, w_1_213, rfl, rfl⟩
theorem w_1_152 : (.fieldLink RX5 59 "PlateRunner$Told" "tape" "[B" : Cond) ∈ UW := um (tb_1 _ (List.mem_of_getElem? (i := 152) (by decide +kernel))) (by decide +kernel)
theorem fl_X5_59 : FL 0 RX5 59 7 0 (2, 36, 1, 0) (.array .byte) true := ⟨by decide, ⟨_, rfl, rfl⟩, RX9, TX9, 8, tyX9, clk_7, by decide, w_1_152, rfl, rfl⟩
theorem w_1_155 : (.fieldLink RX5 62 "PlateRunner$Told" "length" "I" : Cond) ∈ UW := um (tb_1 _ (List.mem_of_getElem? (i := 155) (by decide +kernel))) (by decide +kernel)
theorem fl_X5_62 : FL 0 RX5 62 7 1 (0, 0, 0, 0) .int false := ⟨by decide, ⟨_, rfl, rfl⟩, RX9, TX9, 8, tyX9, clk_7, by decide, w_1_155, rfl, rfl⟩
theorem w_1_106 : (.fieldLink RX5 72 "PlateRunner$Show" "deeds" "I" : Cond) ∈ UW := um (tb_1 _ (List.mem_of_getElem? (i := 106) (by decide +kernel))) (by decide +kernel)
theorem fl_X5_72 : FL 0 RX5 72 5 0 (0, 0, 0, 0) .int false := ⟨by decide, ⟨_, rfl, rfl⟩, RX7, TX7, 3, tyX7, clk_5, by decide, w_1_106, rfl, rfl⟩
theorem w_1_67 : (.fieldLink RX5 162 "PlateRunner$Stage" "plates" "I" : Cond) ∈ UW := um (tb_1 _ (List.mem_of_getElem? (i := 67) (by decide +kernel))) (by decide +kernel)
theorem fl_X5_162 : FL 0 RX5 162 6 2 (0, 0, 0, 0) .int false := ⟨by decide, ⟨_, rfl, rfl⟩, RX8, TX8, 6, tyX8, clk_6, by decide, w_1_67, rfl, rfl⟩
theorem w_1_133 : (.fieldLink RX5 165 "PlateRunner$Log" "facts" "I" : Cond) ∈ UW := um (tb_1 _ (List.mem_of_getElem? (i := 133) (by decide +kernel))) (by decide +kernel)
theorem fl_X5_165 : FL 0 RX5 165 1 1 (0, 0, 0, 0) .int false := ⟨by decide, ⟨_, rfl, rfl⟩, RX3, TX3, 5, tyX3, clk_1, by decide, w_1_133, rfl, rfl⟩
theorem w_1_49 : (.fieldLink RX5 171 "PlateRunner$Stage" "speed" "I" : Cond) ∈ UW := um (tb_1 _ (List.mem_of_getElem? (i := 49) (by decide +kernel))) (by decide +kernel)
theorem fl_X5_171 : FL 0 RX5 171 6 0 (0, 0, 0, 0) .int false := ⟨by decide, ⟨_, rfl, rfl⟩, RX8, TX8, 6, tyX8, clk_6, by decide, w_1_49, rfl, rfl⟩
theorem w_1_58 : (.fieldLink RX5 173 "PlateRunner$Stage" "start" "I" : Cond) ∈ UW := um (tb_1 _ (List.mem_of_getElem? (i := 58) (by decide +kernel))) (by decide +kernel)
theorem fl_X5_173 : FL 0 RX5 173 6 1 (0, 0, 0, 0) .int false := ⟨by decide, ⟨_, rfl, rfl⟩, RX8, TX8, 6, tyX8, clk_6, by decide, w_1_58, rfl, rfl⟩
theorem w_1_129 : (.fieldLink RX5 179 "PlateRunner$Log" "runs" "I" : Cond) ∈ UW := um (tb_1 _ (List.mem_of_getElem? (i := 129) (by decide +kernel))) (by decide +kernel)
theorem fl_X5_179 : FL 0 RX5 179 1 0 (0, 0, 0, 0) .int false := ⟨by decide, ⟨_, rfl, rfl⟩, RX3, TX3, 5, tyX3, clk_1, by decide, w_1_129, rfl, rfl⟩
theorem w_2_134 : (.fieldLink RX6 9 "PlateRunner$Rows" "fitting" "I" : Cond) ∈ UW := um (tb_2 _ (List.mem_of_getElem? (i := 134) (by decide +kernel))) (by decide +kernel)
theorem fl_X6_9 : FL 0 RX6 9 4 0 (0, 0, 0, 0) .int false := ⟨by decide, ⟨_, rfl, rfl⟩, RX6, TX6, 11, tyX6, clk_4, by decide, w_2_134, rfl, rfl⟩
theorem w_2_136 : (.fieldLink RX6 15 "PlateRunner$Rows" "asked" "I" : Cond) ∈ UW := um (tb_2 _ (List.mem_of_getElem? (i := 136) (by decide +kernel))) (by decide +kernel)
theorem fl_X6_15 : FL 0 RX6 15 4 1 (0, 0, 0, 0) .int false := ⟨by decide, ⟨_, rfl, rfl⟩, RX6, TX6, 11, tyX6, clk_4, by decide, w_2_136, rfl, rfl⟩
theorem w_2_138 : (.fieldLink RX6 18 "PlateRunner$Rows" "fewestBeats" "I" : Cond) ∈ UW := um (tb_2 _ (List.mem_of_getElem? (i := 138) (by decide +kernel))) (by decide +kernel)
theorem fl_X6_18 : FL 0 RX6 18 4 2 (0, 0, 0, 0) .int false := ⟨by decide, ⟨_, rfl, rfl⟩, RX6, TX6, 11, tyX6, clk_4, by decide, w_2_138, rfl, rfl⟩
theorem w_2_140 : (.fieldLink RX6 21 "PlateRunner$Rows" "mostBeats" "I" : Cond) ∈ UW := um (tb_2 _ (List.mem_of_getElem? (i := 140) (by decide +kernel))) (by decide +kernel)
theorem fl_X6_21 : FL 0 RX6 21 4 3 (0, 0, 0, 0) .int false := ⟨by decide, ⟨_, rfl, rfl⟩, RX6, TX6, 11, tyX6, clk_4, by decide, w_2_140, rfl, rfl⟩
theorem w_2_142 : (.fieldLink RX6 24 "PlateRunner$Rows" "mostUp" "I" : Cond) ∈ UW := um (tb_2 _ (List.mem_of_getElem? (i := 142) (by decide +kernel))) (by decide +kernel)
theorem fl_X6_24 : FL 0 RX6 24 4 4 (0, 0, 0, 0) .int false := ⟨by decide, ⟨_, rfl, rfl⟩, RX6, TX6, 11, tyX6, clk_4, by decide, w_2_142, rfl, rfl⟩
theorem w_2_144 : (.fieldLink RX6 27 "PlateRunner$Rows" "row" "[I" : Cond) ∈ UW := um (tb_2 _ (List.mem_of_getElem? (i := 144) (by decide +kernel))) (by decide +kernel)
theorem fl_X6_27 : FL 0 RX6 27 4 5 (2, 27, 0, 0) (.array .int) true := ⟨by decide, ⟨_, rfl, rfl⟩, RX6, TX6, 11, tyX6, clk_4, by decide, w_2_144, rfl, rfl⟩
theorem w_2_145 : (.fieldLink RX6 31 "PlateRunner$Rows" "sure" "[I" : Cond) ∈ UW := um (tb_2 _ (List.mem_of_getElem? (i := 145) (by decide +kernel))) (by decide +kernel)
theorem fl_X6_31 : FL 0 RX6 31 4 6 (2, 28, 0, 0) (.array .int) true := ⟨by decide, ⟨_, rfl, rfl⟩, RX6, TX6, 11, tyX6, clk_4, by decide, w_2_145, rfl, rfl⟩
theorem w_2_146 : (.fieldLink RX6 34 "PlateRunner$Rows" "fallsAt" "[I" : Cond) ∈ UW := um (tb_2 _ (List.mem_of_getElem? (i := 146) (by decide +kernel))) (by decide +kernel)
theorem fl_X6_34 : FL 0 RX6 34 4 7 (2, 29, 0, 0) (.array .int) true := ⟨by decide, ⟨_, rfl, rfl⟩, RX6, TX6, 11, tyX6, clk_4, by decide, w_2_146, rfl, rfl⟩
theorem w_2_147 : (.fieldLink RX6 37 "PlateRunner$Rows" "stood" "[I" : Cond) ∈ UW := um (tb_2 _ (List.mem_of_getElem? (i := 147) (by decide +kernel))) (by decide +kernel)
theorem fl_X6_37 : FL 0 RX6 37 4 8 (2, 30, 0, 0) (.array .int) true := ⟨by decide, ⟨_, rfl, rfl⟩, RX6, TX6, 11, tyX6, clk_4, by decide, w_2_147, rfl, rfl⟩
theorem w_2_148 : (.fieldLink RX6 40 "PlateRunner$Rows" "runs" "I" : Cond) ∈ UW := um (tb_2 _ (List.mem_of_getElem? (i := 148) (by decide +kernel))) (by decide +kernel)
theorem fl_X6_40 : FL 0 RX6 40 4 9 (0, 0, 0, 0) .int false := ⟨by decide, ⟨_, rfl, rfl⟩, RX6, TX6, 11, tyX6, clk_4, by decide, w_2_148, rfl, rfl⟩
theorem w_2_149 : (.fieldLink RX6 43 "PlateRunner$Rows" "beats" "I" : Cond) ∈ UW := um (tb_2 _ (List.mem_of_getElem? (i := 149) (by decide +kernel))) (by decide +kernel)
theorem fl_X6_43 : FL 0 RX6 43 4 10 (0, 0, 0, 0) .int false := ⟨by decide, ⟨_, rfl, rfl⟩, RX6, TX6, 11, tyX6, clk_4, by decide, w_2_149, rfl, rfl⟩
theorem w_1_127 : (.fieldLink RX6 49 "PlateRunner$Log" "runs" "I" : Cond) ∈ UW := um (tb_1 _ (List.mem_of_getElem? (i := 127) (by decide +kernel))) (by decide +kernel)
theorem fl_X6_49 : FL 0 RX6 49 1 0 (0, 0, 0, 0) .int false := ⟨by decide, ⟨_, rfl, rfl⟩, RX3, TX3, 5, tyX3, clk_1, by decide, w_1_127, rfl, rfl⟩
theorem w_1_60 : (.fieldLink RX6 58 "PlateRunner$Stage" "plates" "I" : Cond) ∈ UW := um (tb_1 _ (List.mem_of_getElem? (i := 60) (by decide +kernel))) (by decide +kernel)
theorem fl_X6_58 : FL 0 RX6 58 6 2 (0, 0, 0, 0) .int false := ⟨by decide, ⟨_, rfl, rfl⟩, RX8, TX8, 6, tyX8, clk_6, by decide, w_1_60, rfl, rfl⟩
theorem w_1_81 : (.fieldLink RX6 89 "PlateRunner$Stage" "left" "[I" : Cond) ∈ UW := um (tb_1 _ (List.mem_of_getElem? (i := 81) (by decide +kernel))) (by decide +kernel)
theorem fl_X6_89 : FL 0 RX6 89 6 5 (2, 35, 1, 0) (.array .int) true := ⟨by decide, ⟨_, rfl, rfl⟩, RX8, TX8, 6, tyX8, clk_6, by decide, w_1_81, rfl, rfl⟩
theorem w_1_53 : (.fieldLink RX6 92 "PlateRunner$Stage" "start" "I" : Cond) ∈ UW := um (tb_1 _ (List.mem_of_getElem? (i := 53) (by decide +kernel))) (by decide +kernel)
theorem fl_X6_92 : FL 0 RX6 92 6 1 (0, 0, 0, 0) .int false := ⟨by decide, ⟨_, rfl, rfl⟩, RX8, TX8, 6, tyX8, clk_6, by decide, w_1_53, rfl, rfl⟩
theorem w_1_69 : (.fieldLink RX6 99 "PlateRunner$Stage" "place" "[I" : Cond) ∈ UW := um (tb_1 _ (List.mem_of_getElem? (i := 69) (by decide +kernel))) (by decide +kernel)
theorem fl_X6_99 : FL 0 RX6 99 6 3 (2, 33, 1, 0) (.array .int) true := ⟨by decide, ⟨_, rfl, rfl⟩, RX8, TX8, 6, tyX8, clk_6, by decide, w_1_69, rfl, rfl⟩
theorem w_1_76 : (.fieldLink RX6 105 "PlateRunner$Stage" "life" "[I" : Cond) ∈ UW := um (tb_1 _ (List.mem_of_getElem? (i := 76) (by decide +kernel))) (by decide +kernel)
theorem fl_X6_105 : FL 0 RX6 105 6 4 (2, 34, 1, 0) (.array .int) true := ⟨by decide, ⟨_, rfl, rfl⟩, RX8, TX8, 6, tyX8, clk_6, by decide, w_1_76, rfl, rfl⟩
theorem w_1_131 : (.fieldLink RX6 108 "PlateRunner$Log" "facts" "I" : Cond) ∈ UW := um (tb_1 _ (List.mem_of_getElem? (i := 131) (by decide +kernel))) (by decide +kernel)
theorem fl_X6_108 : FL 0 RX6 108 1 1 (0, 0, 0, 0) .int false := ⟨by decide, ⟨_, rfl, rfl⟩, RX3, TX3, 5, tyX3, clk_1, by decide, w_1_131, rfl, rfl⟩
theorem w_1_137 : (.fieldLink RX6 111 "PlateRunner$Log" "plate" "[I" : Cond) ∈ UW := um (tb_1 _ (List.mem_of_getElem? (i := 137) (by decide +kernel))) (by decide +kernel)
theorem fl_X6_111 : FL 0 RX6 111 1 3 (2, 22, 1, 0) (.array .int) true := ⟨by decide, ⟨_, rfl, rfl⟩, RX3, TX3, 5, tyX3, clk_1, by decide, w_1_137, rfl, rfl⟩
theorem w_1_139 : (.fieldLink RX6 114 "PlateRunner$Log" "beats" "[I" : Cond) ∈ UW := um (tb_1 _ (List.mem_of_getElem? (i := 139) (by decide +kernel))) (by decide +kernel)
theorem fl_X6_114 : FL 0 RX6 114 1 4 (2, 23, 1, 0) (.array .int) true := ⟨by decide, ⟨_, rfl, rfl⟩, RX3, TX3, 5, tyX3, clk_1, by decide, w_1_139, rfl, rfl⟩
theorem w_1_135 : (.fieldLink RX6 116 "PlateRunner$Log" "stood" "[I" : Cond) ∈ UW := um (tb_1 _ (List.mem_of_getElem? (i := 135) (by decide +kernel))) (by decide +kernel)
theorem fl_X6_116 : FL 0 RX6 116 1 2 (2, 21, 1, 0) (.array .int) true := ⟨by decide, ⟨_, rfl, rfl⟩, RX3, TX3, 5, tyX3, clk_1, by decide, w_1_135, rfl, rfl⟩
theorem w_1_105 : (.fieldLink RX7 9 "PlateRunner$Show" "deeds" "I" : Cond) ∈ UW := um (tb_1 _ (List.mem_of_getElem? (i := 105) (by decide +kernel))) (by decide +kernel)
theorem fl_X7_9 : FL 0 RX7 9 5 0 (0, 0, 0, 0) .int false := ⟨by decide, ⟨_, rfl, rfl⟩, RX7, TX7, 3, tyX7, clk_5, by decide, w_1_105, rfl, rfl⟩
theorem w_1_108 : (.fieldLink RX7 15 "PlateRunner$Show" "kind" "[I" : Cond) ∈ UW := um (tb_1 _ (List.mem_of_getElem? (i := 108) (by decide +kernel))) (by decide +kernel)
theorem fl_X7_15 : FL 0 RX7 15 5 1 (2, 31, 1, 0) (.array .int) true := ⟨by decide, ⟨_, rfl, rfl⟩, RX7, TX7, 3, tyX7, clk_5, by decide, w_1_108, rfl, rfl⟩
theorem w_1_111 : (.fieldLink RX7 19 "PlateRunner$Show" "plate" "[I" : Cond) ∈ UW := um (tb_1 _ (List.mem_of_getElem? (i := 111) (by decide +kernel))) (by decide +kernel)
theorem fl_X7_19 : FL 0 RX7 19 5 2 (2, 32, 1, 0) (.array .int) true := ⟨by decide, ⟨_, rfl, rfl⟩, RX7, TX7, 3, tyX7, clk_5, by decide, w_1_111, rfl, rfl⟩
theorem w_1_46 : (.fieldLink RX8 9 "PlateRunner$Stage" "speed" "I" : Cond) ∈ UW := um (tb_1 _ (List.mem_of_getElem? (i := 46) (by decide +kernel))) (by decide +kernel)
theorem fl_X8_9 : FL 0 RX8 9 6 0 (0, 0, 0, 0) .int false := ⟨by decide, ⟨_, rfl, rfl⟩, RX8, TX8, 6, tyX8, clk_6, by decide, w_1_46, rfl, rfl⟩
theorem w_1_50 : (.fieldLink RX8 15 "PlateRunner$Stage" "start" "I" : Cond) ∈ UW := um (tb_1 _ (List.mem_of_getElem? (i := 50) (by decide +kernel))) (by decide +kernel)
theorem fl_X8_15 : FL 0 RX8 15 6 1 (0, 0, 0, 0) .int false := ⟨by decide, ⟨_, rfl, rfl⟩, RX8, TX8, 6, tyX8, clk_6, by decide, w_1_50, rfl, rfl⟩
theorem w_1_59 : (.fieldLink RX8 18 "PlateRunner$Stage" "plates" "I" : Cond) ∈ UW := um (tb_1 _ (List.mem_of_getElem? (i := 59) (by decide +kernel))) (by decide +kernel)
theorem fl_X8_18 : FL 0 RX8 18 6 2 (0, 0, 0, 0) .int false := ⟨by decide, ⟨_, rfl, rfl⟩, RX8, TX8, 6, tyX8, clk_6, by decide, w_1_59, rfl, rfl⟩
theorem w_1_68 : (.fieldLink RX8 21 "PlateRunner$Stage" "place" "[I" : Cond) ∈ UW := um (tb_1 _ (List.mem_of_getElem? (i := 68) (by decide +kernel))) (by decide +kernel)
theorem fl_X8_21 : FL 0 RX8 21 6 3 (2, 33, 1, 0) (.array .int) true := ⟨by decide, ⟨_, rfl, rfl⟩, RX8, TX8, 6, tyX8, clk_6, by decide, w_1_68, rfl, rfl⟩
theorem w_1_75 : (.fieldLink RX8 25 "PlateRunner$Stage" "life" "[I" : Cond) ∈ UW := um (tb_1 _ (List.mem_of_getElem? (i := 75) (by decide +kernel))) (by decide +kernel)
theorem fl_X8_25 : FL 0 RX8 25 6 4 (2, 34, 1, 0) (.array .int) true := ⟨by decide, ⟨_, rfl, rfl⟩, RX8, TX8, 6, tyX8, clk_6, by decide, w_1_75, rfl, rfl⟩
theorem w_1_80 : (.fieldLink RX8 28 "PlateRunner$Stage" "left" "[I" : Cond) ∈ UW := um (tb_1 _ (List.mem_of_getElem? (i := 80) (by decide +kernel))) (by decide +kernel)
theorem fl_X8_28 : FL 0 RX8 28 6 5 (2, 35, 1, 0) (.array .int) true := ⟨by decide, ⟨_, rfl, rfl⟩, RX8, TX8, 6, tyX8, clk_6, by decide, w_1_80, rfl, rfl⟩
theorem w_1_151 : (.fieldLink RX9 9 "PlateRunner$Told" "tape" "[B" : Cond) ∈ UW := um (tb_1 _ (List.mem_of_getElem? (i := 151) (by decide +kernel))) (by decide +kernel)
theorem fl_X9_9 : FL 0 RX9 9 7 0 (2, 36, 1, 0) (.array .byte) true := ⟨by decide, ⟨_, rfl, rfl⟩, RX9, TX9, 8, tyX9, clk_7, by decide, w_1_151, rfl, rfl⟩
theorem w_1_153 : (.fieldLink RX9 15 "PlateRunner$Told" "length" "I" : Cond) ∈ UW := um (tb_1 _ (List.mem_of_getElem? (i := 153) (by decide +kernel))) (by decide +kernel)
theorem fl_X9_15 : FL 0 RX9 15 7 1 (0, 0, 0, 0) .int false := ⟨by decide, ⟨_, rfl, rfl⟩, RX9, TX9, 8, tyX9, clk_7, by decide, w_1_153, rfl, rfl⟩
theorem w_1_156 : (.fieldLink RX9 19 "PlateRunner$Told" "fault" "I" : Cond) ∈ UW := um (tb_1 _ (List.mem_of_getElem? (i := 156) (by decide +kernel))) (by decide +kernel)
theorem fl_X9_19 : FL 0 RX9 19 7 2 (0, 0, 0, 0) .int false := ⟨by decide, ⟨_, rfl, rfl⟩, RX9, TX9, 8, tyX9, clk_7, by decide, w_1_156, rfl, rfl⟩
theorem w_1_158 : (.fieldLink RX9 22 "PlateRunner$Told" "faultAt" "I" : Cond) ∈ UW := um (tb_1 _ (List.mem_of_getElem? (i := 158) (by decide +kernel))) (by decide +kernel)
theorem fl_X9_22 : FL 0 RX9 22 7 3 (0, 0, 0, 0) .int false := ⟨by decide, ⟨_, rfl, rfl⟩, RX9, TX9, 8, tyX9, clk_7, by decide, w_1_158, rfl, rfl⟩
theorem w_1_160 : (.fieldLink RX9 25 "PlateRunner$Told" "counts" "[I" : Cond) ∈ UW := um (tb_1 _ (List.mem_of_getElem? (i := 160) (by decide +kernel))) (by decide +kernel)
theorem fl_X9_25 : FL 0 RX9 25 7 4 (2, 37, 1, 0) (.array .int) true := ⟨by decide, ⟨_, rfl, rfl⟩, RX9, TX9, 8, tyX9, clk_7, by decide, w_1_160, rfl, rfl⟩
theorem w_1_162 : (.fieldLink RX9 31 "PlateRunner$Told" "stages" "[LPlateRunner$Stage;" : Cond) ∈ UW := um (tb_1 _ (List.mem_of_getElem? (i := 162) (by decide +kernel))) (by decide +kernel)
theorem fl_X9_31 : FL 0 RX9 31 7 5 (2, 38, 1, 0) (.array (.object "PlateRunner$Stage")) true := ⟨by decide, ⟨_, rfl, rfl⟩, RX9, TX9, 8, tyX9, clk_7, by decide, w_1_162, rfl, rfl⟩
theorem w_1_164 : (.fieldLink RX9 37 "PlateRunner$Told" "shows" "[LPlateRunner$Show;" : Cond) ∈ UW := um (tb_1 _ (List.mem_of_getElem? (i := 164) (by decide +kernel))) (by decide +kernel)
theorem fl_X9_37 : FL 0 RX9 37 7 6 (2, 39, 1, 0) (.array (.object "PlateRunner$Show")) true := ⟨by decide, ⟨_, rfl, rfl⟩, RX9, TX9, 8, tyX9, clk_7, by decide, w_1_164, rfl, rfl⟩
theorem w_1_166 : (.fieldLink RX9 43 "PlateRunner$Told" "logs" "[LPlateRunner$Log;" : Cond) ∈ UW := um (tb_1 _ (List.mem_of_getElem? (i := 166) (by decide +kernel))) (by decide +kernel)
theorem fl_X9_43 : FL 0 RX9 43 7 7 (2, 40, 1, 0) (.array (.object "PlateRunner$Log")) true := ⟨by decide, ⟨_, rfl, rfl⟩, RX9, TX9, 8, tyX9, clk_7, by decide, w_1_166, rfl, rfl⟩
theorem w_2_120 : (.fieldLink RX10 12 "PlateRunner$Trials" "keeper" "LPlateRunner$Keeper;" : Cond) ∈ UW := um (tb_2 _ (List.mem_of_getElem? (i := 120) (by decide +kernel))) (by decide +kernel)
theorem fl_X10_12 : FL 0 RX10 12 8 0 (2, 0, 0, 0) (.object "PlateRunner$Keeper") true := ⟨by decide, ⟨_, rfl, rfl⟩, RX10, TX10, 2, tyX10, clk_8, by decide, w_2_120, rfl, rfl⟩
theorem w_2_122 : (.fieldLink RX10 21 "PlateRunner$Trials" "trial" "LPlateRunner$Stage;" : Cond) ∈ UW := um (tb_2 _ (List.mem_of_getElem? (i := 122) (by decide +kernel))) (by decide +kernel)
theorem fl_X10_21 : FL 0 RX10 21 8 1 (2, 6, 0, 11) (.object "PlateRunner$Stage") true := ⟨by decide, ⟨_, rfl, rfl⟩, RX10, TX10, 2, tyX10, clk_8, by decide, w_2_122, rfl, rfl⟩
theorem w_1_47 : (.fieldLink RX10 37 "PlateRunner$Stage" "speed" "I" : Cond) ∈ UW := um (tb_1 _ (List.mem_of_getElem? (i := 47) (by decide +kernel))) (by decide +kernel)
theorem fl_X10_37 : FL 0 RX10 37 6 0 (0, 0, 0, 0) .int false := ⟨by decide, ⟨_, rfl, rfl⟩, RX8, TX8, 6, tyX8, clk_6, by decide, w_1_47, rfl, rfl⟩
theorem w_1_51 : (.fieldLink RX10 41 "PlateRunner$Stage" "start" "I" : Cond) ∈ UW := um (tb_1 _ (List.mem_of_getElem? (i := 51) (by decide +kernel))) (by decide +kernel)
theorem fl_X10_41 : FL 0 RX10 41 6 1 (0, 0, 0, 0) .int false := ⟨by decide, ⟨_, rfl, rfl⟩, RX8, TX8, 6, tyX8, clk_6, by decide, w_1_51, rfl, rfl⟩
theorem w_1_63 : (.fieldLink RX10 44 "PlateRunner$Stage" "plates" "I" : Cond) ∈ UW := um (tb_1 _ (List.mem_of_getElem? (i := 63) (by decide +kernel))) (by decide +kernel)
theorem fl_X10_44 : FL 0 RX10 44 6 2 (0, 0, 0, 0) .int false := ⟨by decide, ⟨_, rfl, rfl⟩, RX8, TX8, 6, tyX8, clk_6, by decide, w_1_63, rfl, rfl⟩
theorem w_1_77 : (.fieldLink RX10 61 "PlateRunner$Stage" "life" "[I" : Cond) ∈ UW := um (tb_1 _ (List.mem_of_getElem? (i := 77) (by decide +kernel))) (by decide +kernel)
theorem fl_X10_61 : FL 0 RX10 61 6 4 (2, 34, 1, 0) (.array .int) true := ⟨by decide, ⟨_, rfl, rfl⟩, RX8, TX8, 6, tyX8, clk_6, by decide, w_1_77, rfl, rfl⟩
theorem w_1_83 : (.fieldLink RX10 65 "PlateRunner$Stage" "left" "[I" : Cond) ∈ UW := um (tb_1 _ (List.mem_of_getElem? (i := 83) (by decide +kernel))) (by decide +kernel)
theorem fl_X10_65 : FL 0 RX10 65 6 5 (2, 35, 1, 0) (.array .int) true := ⟨by decide, ⟨_, rfl, rfl⟩, RX8, TX8, 6, tyX8, clk_6, by decide, w_1_83, rfl, rfl⟩
theorem w_1_74 : (.fieldLink RX10 74 "PlateRunner$Stage" "place" "[I" : Cond) ∈ UW := um (tb_1 _ (List.mem_of_getElem? (i := 74) (by decide +kernel))) (by decide +kernel)
theorem fl_X10_74 : FL 0 RX10 74 6 3 (2, 33, 1, 0) (.array .int) true := ⟨by decide, ⟨_, rfl, rfl⟩, RX8, TX8, 6, tyX8, clk_6, by decide, w_1_74, rfl, rfl⟩
theorem w_5_180 : (.fieldLink RX12 7 "PlateRunnerModel" "tape" "[B" : Cond) ∈ UW := um (tb_5 _ (List.mem_of_getElem? (i := 180) (by decide +kernel))) (by decide +kernel)
theorem fl_X12_7 : FL 1 RX12 7 10 1 (2, 43, 0, 0) (.array .byte) true := ⟨by decide, ⟨_, rfl, rfl⟩, RX12, TX12, 62, tyX12, clk_10, by decide, w_5_180, rfl, rfl⟩
theorem w_5_181 : (.fieldLink RX12 13 "PlateRunnerModel" "size" "[I" : Cond) ∈ UW := um (tb_5 _ (List.mem_of_getElem? (i := 181) (by decide +kernel))) (by decide +kernel)
theorem fl_X12_13 : FL 1 RX12 13 10 2 (2, 44, 0, 0) (.array .int) true := ⟨by decide, ⟨_, rfl, rfl⟩, RX12, TX12, 62, tyX12, clk_10, by decide, w_5_181, rfl, rfl⟩
theorem w_5_182 : (.fieldLink RX12 17 "PlateRunnerModel" "fault" "[I" : Cond) ∈ UW := um (tb_5 _ (List.mem_of_getElem? (i := 182) (by decide +kernel))) (by decide +kernel)
theorem fl_X12_17 : FL 1 RX12 17 10 3 (2, 45, 0, 0) (.array .int) true := ⟨by decide, ⟨_, rfl, rfl⟩, RX12, TX12, 62, tyX12, clk_10, by decide, w_5_182, rfl, rfl⟩
theorem w_5_183 : (.fieldLink RX12 20 "PlateRunnerModel" "faultPlace" "[I" : Cond) ∈ UW := um (tb_5 _ (List.mem_of_getElem? (i := 183) (by decide +kernel))) (by decide +kernel)
theorem fl_X12_20 : FL 1 RX12 20 10 4 (2, 46, 0, 0) (.array .int) true := ⟨by decide, ⟨_, rfl, rfl⟩, RX12, TX12, 62, tyX12, clk_10, by decide, w_5_183, rfl, rfl⟩
theorem w_5_184 : (.fieldLink RX12 23 "PlateRunnerModel" "many" "[I" : Cond) ∈ UW := um (tb_5 _ (List.mem_of_getElem? (i := 184) (by decide +kernel))) (by decide +kernel)
theorem fl_X12_23 : FL 1 RX12 23 10 5 (2, 47, 0, 0) (.array .int) true := ⟨by decide, ⟨_, rfl, rfl⟩, RX12, TX12, 62, tyX12, clk_10, by decide, w_5_184, rfl, rfl⟩
theorem w_5_185 : (.fieldLink RX12 26 "PlateRunnerModel" "stages" "[I" : Cond) ∈ UW := um (tb_5 _ (List.mem_of_getElem? (i := 185) (by decide +kernel))) (by decide +kernel)
theorem fl_X12_26 : FL 1 RX12 26 10 6 (2, 48, 0, 0) (.array .int) true := ⟨by decide, ⟨_, rfl, rfl⟩, RX12, TX12, 62, tyX12, clk_10, by decide, w_5_185, rfl, rfl⟩
theorem w_5_186 : (.fieldLink RX12 29 "PlateRunnerModel" "shows" "[I" : Cond) ∈ UW := um (tb_5 _ (List.mem_of_getElem? (i := 186) (by decide +kernel))) (by decide +kernel)
theorem fl_X12_29 : FL 1 RX12 29 10 7 (2, 49, 0, 0) (.array .int) true := ⟨by decide, ⟨_, rfl, rfl⟩, RX12, TX12, 62, tyX12, clk_10, by decide, w_5_186, rfl, rfl⟩
theorem w_5_187 : (.fieldLink RX12 32 "PlateRunnerModel" "logs" "[I" : Cond) ∈ UW := um (tb_5 _ (List.mem_of_getElem? (i := 187) (by decide +kernel))) (by decide +kernel)
theorem fl_X12_32 : FL 1 RX12 32 10 8 (2, 50, 0, 0) (.array .int) true := ⟨by decide, ⟨_, rfl, rfl⟩, RX12, TX12, 62, tyX12, clk_10, by decide, w_5_187, rfl, rfl⟩
theorem w_5_197 : (.fieldLink RX12 35 "PlateRunnerModel" "told" "[I" : Cond) ∈ UW := um (tb_5 _ (List.mem_of_getElem? (i := 197) (by decide +kernel))) (by decide +kernel)
theorem fl_X12_35 : FL 1 RX12 35 10 18 (2, 51, 0, 0) (.array .int) true := ⟨by decide, ⟨_, rfl, rfl⟩, RX12, TX12, 62, tyX12, clk_10, by decide, w_5_197, rfl, rfl⟩
theorem w_5_198 : (.fieldLink RX12 38 "PlateRunnerModel" "read" "[I" : Cond) ∈ UW := um (tb_5 _ (List.mem_of_getElem? (i := 198) (by decide +kernel))) (by decide +kernel)
theorem fl_X12_38 : FL 1 RX12 38 10 19 (2, 52, 0, 0) (.array .int) true := ⟨by decide, ⟨_, rfl, rfl⟩, RX12, TX12, 62, tyX12, clk_10, by decide, w_5_198, rfl, rfl⟩
theorem w_5_205 : (.fieldLink RX12 41 "PlateRunnerModel" "at" "[I" : Cond) ∈ UW := um (tb_5 _ (List.mem_of_getElem? (i := 205) (by decide +kernel))) (by decide +kernel)
theorem fl_X12_41 : FL 1 RX12 41 10 26 (2, 53, 0, 0) (.array .int) true := ⟨by decide, ⟨_, rfl, rfl⟩, RX12, TX12, 62, tyX12, clk_10, by decide, w_5_205, rfl, rfl⟩
theorem w_5_206 : (.fieldLink RX12 44 "PlateRunnerModel" "live" "[I" : Cond) ∈ UW := um (tb_5 _ (List.mem_of_getElem? (i := 206) (by decide +kernel))) (by decide +kernel)
theorem fl_X12_44 : FL 1 RX12 44 10 27 (2, 54, 0, 0) (.array .int) true := ⟨by decide, ⟨_, rfl, rfl⟩, RX12, TX12, 62, tyX12, clk_10, by decide, w_5_206, rfl, rfl⟩
theorem w_5_207 : (.fieldLink RX12 47 "PlateRunnerModel" "rest" "[I" : Cond) ∈ UW := um (tb_5 _ (List.mem_of_getElem? (i := 207) (by decide +kernel))) (by decide +kernel)
theorem fl_X12_47 : FL 1 RX12 47 10 28 (2, 55, 0, 0) (.array .int) true := ⟨by decide, ⟨_, rfl, rfl⟩, RX12, TX12, 62, tyX12, clk_10, by decide, w_5_207, rfl, rfl⟩
theorem w_5_217 : (.fieldLink RX12 50 "PlateRunnerModel" "spunBy" "[I" : Cond) ∈ UW := um (tb_5 _ (List.mem_of_getElem? (i := 217) (by decide +kernel))) (by decide +kernel)
theorem fl_X12_50 : FL 1 RX12 50 10 38 (2, 56, 0, 0) (.array .int) true := ⟨by decide, ⟨_, rfl, rfl⟩, RX12, TX12, 62, tyX12, clk_10, by decide, w_5_217, rfl, rfl⟩
theorem w_5_218 : (.fieldLink RX12 53 "PlateRunnerModel" "standing" "[I" : Cond) ∈ UW := um (tb_5 _ (List.mem_of_getElem? (i := 218) (by decide +kernel))) (by decide +kernel)
theorem fl_X12_53 : FL 1 RX12 53 10 39 (2, 57, 0, 0) (.array .int) true := ⟨by decide, ⟨_, rfl, rfl⟩, RX12, TX12, 62, tyX12, clk_10, by decide, w_5_218, rfl, rfl⟩
theorem w_5_220 : (.fieldLink RX12 57 "PlateRunnerModel" "stands" "[I" : Cond) ∈ UW := um (tb_5 _ (List.mem_of_getElem? (i := 220) (by decide +kernel))) (by decide +kernel)
theorem fl_X12_57 : FL 1 RX12 57 10 41 (2, 58, 0, 0) (.array .int) true := ⟨by decide, ⟨_, rfl, rfl⟩, RX12, TX12, 62, tyX12, clk_10, by decide, w_5_220, rfl, rfl⟩
theorem w_5_221 : (.fieldLink RX12 60 "PlateRunnerModel" "numberOf" "[I" : Cond) ∈ UW := um (tb_5 _ (List.mem_of_getElem? (i := 221) (by decide +kernel))) (by decide +kernel)
theorem fl_X12_60 : FL 1 RX12 60 10 42 (2, 59, 0, 0) (.array .int) true := ⟨by decide, ⟨_, rfl, rfl⟩, RX12, TX12, 62, tyX12, clk_10, by decide, w_5_221, rfl, rfl⟩
theorem w_5_222 : (.fieldLink RX12 63 "PlateRunnerModel" "lasts" "[I" : Cond) ∈ UW := um (tb_5 _ (List.mem_of_getElem? (i := 222) (by decide +kernel))) (by decide +kernel)
theorem fl_X12_63 : FL 1 RX12 63 10 43 (2, 60, 0, 0) (.array .int) true := ⟨by decide, ⟨_, rfl, rfl⟩, RX12, TX12, 62, tyX12, clk_10, by decide, w_5_222, rfl, rfl⟩
theorem w_5_223 : (.fieldLink RX12 66 "PlateRunnerModel" "steps" "[I" : Cond) ∈ UW := um (tb_5 _ (List.mem_of_getElem? (i := 223) (by decide +kernel))) (by decide +kernel)
theorem fl_X12_66 : FL 1 RX12 66 10 44 (2, 61, 0, 0) (.array .int) true := ⟨by decide, ⟨_, rfl, rfl⟩, RX12, TX12, 62, tyX12, clk_10, by decide, w_5_223, rfl, rfl⟩
theorem w_5_224 : (.fieldLink RX12 69 "PlateRunnerModel" "beatsAt" "[I" : Cond) ∈ UW := um (tb_5 _ (List.mem_of_getElem? (i := 224) (by decide +kernel))) (by decide +kernel)
theorem fl_X12_69 : FL 1 RX12 69 10 45 (2, 62, 0, 0) (.array .int) true := ⟨by decide, ⟨_, rfl, rfl⟩, RX12, TX12, 62, tyX12, clk_10, by decide, w_5_224, rfl, rfl⟩
theorem w_5_227 : (.fieldLink RX12 72 "PlateRunnerModel" "left" "[I" : Cond) ∈ UW := um (tb_5 _ (List.mem_of_getElem? (i := 227) (by decide +kernel))) (by decide +kernel)
theorem fl_X12_72 : FL 1 RX12 72 10 48 (2, 63, 0, 0) (.array .int) true := ⟨by decide, ⟨_, rfl, rfl⟩, RX12, TX12, 62, tyX12, clk_10, by decide, w_5_227, rfl, rfl⟩
theorem w_5_229 : (.fieldLink RX12 75 "PlateRunnerModel" "ends" "[I" : Cond) ∈ UW := um (tb_5 _ (List.mem_of_getElem? (i := 229) (by decide +kernel))) (by decide +kernel)
theorem fl_X12_75 : FL 1 RX12 75 10 50 (2, 64, 0, 0) (.array .int) true := ⟨by decide, ⟨_, rfl, rfl⟩, RX12, TX12, 62, tyX12, clk_10, by decide, w_5_229, rfl, rfl⟩
theorem w_5_237 : (.fieldLink RX12 78 "PlateRunnerModel" "runsBy" "[I" : Cond) ∈ UW := um (tb_5 _ (List.mem_of_getElem? (i := 237) (by decide +kernel))) (by decide +kernel)
theorem fl_X12_78 : FL 1 RX12 78 10 58 (2, 65, 0, 0) (.array .int) true := ⟨by decide, ⟨_, rfl, rfl⟩, RX12, TX12, 62, tyX12, clk_10, by decide, w_5_237, rfl, rfl⟩
theorem w_5_238 : (.fieldLink RX12 81 "PlateRunnerModel" "stood" "[I" : Cond) ∈ UW := um (tb_5 _ (List.mem_of_getElem? (i := 238) (by decide +kernel))) (by decide +kernel)
theorem fl_X12_81 : FL 1 RX12 81 10 59 (2, 66, 0, 0) (.array .int) true := ⟨by decide, ⟨_, rfl, rfl⟩, RX12, TX12, 62, tyX12, clk_10, by decide, w_5_238, rfl, rfl⟩
theorem w_6_0 : (.fieldLink RX12 84 "PlateRunnerModel" "saved2" "[Z" : Cond) ∈ UW := um (tb_6 _ (List.mem_of_getElem? (i := 0) (by decide +kernel))) (by decide +kernel)
theorem fl_X12_84 : FL 1 RX12 84 10 61 (2, 67, 0, 0) (.array .boolean) true := ⟨by decide, ⟨_, rfl, rfl⟩, RX12, TX12, 62, tyX12, clk_10, by decide, w_6_0, rfl, rfl⟩
theorem w_5_179 : (.fieldLink RX12 88 "PlateRunnerModel" "code" "I" : Cond) ∈ UW := um (tb_5 _ (List.mem_of_getElem? (i := 179) (by decide +kernel))) (by decide +kernel)
theorem fl_X12_88 : FL 1 RX12 88 10 0 (0, 0, 0, 0) .int false := ⟨by decide, ⟨_, rfl, rfl⟩, RX12, TX12, 62, tyX12, clk_10, by decide, w_5_179, rfl, rfl⟩
theorem w_5_188 : (.fieldLink RX12 108 "PlateRunnerModel" "reached" "I" : Cond) ∈ UW := um (tb_5 _ (List.mem_of_getElem? (i := 188) (by decide +kernel))) (by decide +kernel)
theorem fl_X12_108 : FL 1 RX12 108 10 9 (0, 0, 0, 0) .int false := ⟨by decide, ⟨_, rfl, rfl⟩, RX12, TX12, 62, tyX12, clk_10, by decide, w_5_188, rfl, rfl⟩
theorem w_5_189 : (.fieldLink RX12 111 "PlateRunnerModel" "length" "I" : Cond) ∈ UW := um (tb_5 _ (List.mem_of_getElem? (i := 189) (by decide +kernel))) (by decide +kernel)
theorem fl_X12_111 : FL 1 RX12 111 10 10 (0, 0, 0, 0) .int false := ⟨by decide, ⟨_, rfl, rfl⟩, RX12, TX12, 62, tyX12, clk_10, by decide, w_5_189, rfl, rfl⟩
theorem w_5_190 : (.fieldLink RX12 118 "PlateRunnerModel" "begins" "I" : Cond) ∈ UW := um (tb_5 _ (List.mem_of_getElem? (i := 190) (by decide +kernel))) (by decide +kernel)
theorem fl_X12_118 : FL 1 RX12 118 10 11 (0, 0, 0, 0) .int false := ⟨by decide, ⟨_, rfl, rfl⟩, RX12, TX12, 62, tyX12, clk_10, by decide, w_5_190, rfl, rfl⟩
theorem w_5_193 : (.fieldLink RX12 121 "PlateRunnerModel" "word" "J" : Cond) ∈ UW := um (tb_5 _ (List.mem_of_getElem? (i := 193) (by decide +kernel))) (by decide +kernel)
theorem fl_X12_121 : FL 1 RX12 121 10 14 (1, 0, 0, 0) .long false := ⟨by decide, ⟨_, rfl, rfl⟩, RX12, TX12, 62, tyX12, clk_10, by decide, w_5_193, rfl, rfl⟩
theorem w_5_191 : (.fieldLink RX12 125 "PlateRunnerModel" "sort" "I" : Cond) ∈ UW := um (tb_5 _ (List.mem_of_getElem? (i := 191) (by decide +kernel))) (by decide +kernel)
theorem fl_X12_125 : FL 1 RX12 125 10 12 (0, 0, 0, 0) .int false := ⟨by decide, ⟨_, rfl, rfl⟩, RX12, TX12, 62, tyX12, clk_10, by decide, w_5_191, rfl, rfl⟩
theorem w_5_192 : (.fieldLink RX12 128 "PlateRunnerModel" "value" "I" : Cond) ∈ UW := um (tb_5 _ (List.mem_of_getElem? (i := 192) (by decide +kernel))) (by decide +kernel)
theorem fl_X12_128 : FL 1 RX12 128 10 13 (0, 0, 0, 0) .int false := ⟨by decide, ⟨_, rfl, rfl⟩, RX12, TX12, 62, tyX12, clk_10, by decide, w_5_192, rfl, rfl⟩
theorem w_5_194 : (.fieldLink RX12 131 "PlateRunnerModel" "wrongAt" "I" : Cond) ∈ UW := um (tb_5 _ (List.mem_of_getElem? (i := 194) (by decide +kernel))) (by decide +kernel)
theorem fl_X12_131 : FL 1 RX12 131 10 15 (0, 0, 0, 0) .int false := ⟨by decide, ⟨_, rfl, rfl⟩, RX12, TX12, 62, tyX12, clk_10, by decide, w_5_194, rfl, rfl⟩
theorem w_5_195 : (.fieldLink RX12 134 "PlateRunnerModel" "laterFault" "I" : Cond) ∈ UW := um (tb_5 _ (List.mem_of_getElem? (i := 195) (by decide +kernel))) (by decide +kernel)
theorem fl_X12_134 : FL 1 RX12 134 10 16 (0, 0, 0, 0) .int false := ⟨by decide, ⟨_, rfl, rfl⟩, RX12, TX12, 62, tyX12, clk_10, by decide, w_5_195, rfl, rfl⟩
theorem w_5_196 : (.fieldLink RX12 137 "PlateRunnerModel" "laterPlace" "I" : Cond) ∈ UW := um (tb_5 _ (List.mem_of_getElem? (i := 196) (by decide +kernel))) (by decide +kernel)
theorem fl_X12_137 : FL 1 RX12 137 10 17 (0, 0, 0, 0) .int false := ⟨by decide, ⟨_, rfl, rfl⟩, RX12, TX12, 62, tyX12, clk_10, by decide, w_5_196, rfl, rfl⟩
theorem w_5_199 : (.fieldLink RX12 148 "PlateRunnerModel" "good" "Z" : Cond) ∈ UW := um (tb_5 _ (List.mem_of_getElem? (i := 199) (by decide +kernel))) (by decide +kernel)
theorem fl_X12_148 : FL 1 RX12 148 10 20 (0, 0, 0, 0) .boolean false := ⟨by decide, ⟨_, rfl, rfl⟩, RX12, TX12, 62, tyX12, clk_10, by decide, w_5_199, rfl, rfl⟩
theorem w_5_200 : (.fieldLink RX12 219 "PlateRunnerModel" "stage" "I" : Cond) ∈ UW := um (tb_5 _ (List.mem_of_getElem? (i := 200) (by decide +kernel))) (by decide +kernel)
theorem fl_X12_219 : FL 1 RX12 219 10 21 (0, 0, 0, 0) .int false := ⟨by decide, ⟨_, rfl, rfl⟩, RX12, TX12, 62, tyX12, clk_10, by decide, w_5_200, rfl, rfl⟩
theorem w_5_202 : (.fieldLink RX12 226 "PlateRunnerModel" "pace" "I" : Cond) ∈ UW := um (tb_5 _ (List.mem_of_getElem? (i := 202) (by decide +kernel))) (by decide +kernel)
theorem fl_X12_226 : FL 1 RX12 226 10 23 (0, 0, 0, 0) .int false := ⟨by decide, ⟨_, rfl, rfl⟩, RX12, TX12, 62, tyX12, clk_10, by decide, w_5_202, rfl, rfl⟩
theorem w_5_203 : (.fieldLink RX12 229 "PlateRunnerModel" "begin" "I" : Cond) ∈ UW := um (tb_5 _ (List.mem_of_getElem? (i := 203) (by decide +kernel))) (by decide +kernel)
theorem fl_X12_229 : FL 1 RX12 229 10 24 (0, 0, 0, 0) .int false := ⟨by decide, ⟨_, rfl, rfl⟩, RX12, TX12, 62, tyX12, clk_10, by decide, w_5_203, rfl, rfl⟩
theorem w_5_201 : (.fieldLink RX12 232 "PlateRunnerModel" "plates" "I" : Cond) ∈ UW := um (tb_5 _ (List.mem_of_getElem? (i := 201) (by decide +kernel))) (by decide +kernel)
theorem fl_X12_232 : FL 1 RX12 232 10 22 (0, 0, 0, 0) .int false := ⟨by decide, ⟨_, rfl, rfl⟩, RX12, TX12, 62, tyX12, clk_10, by decide, w_5_201, rfl, rfl⟩
theorem w_5_204 : (.fieldLink RX12 235 "PlateRunnerModel" "some" "I" : Cond) ∈ UW := um (tb_5 _ (List.mem_of_getElem? (i := 204) (by decide +kernel))) (by decide +kernel)
theorem fl_X12_235 : FL 1 RX12 235 10 25 (0, 0, 0, 0) .int false := ⟨by decide, ⟨_, rfl, rfl⟩, RX12, TX12, 62, tyX12, clk_10, by decide, w_5_204, rfl, rfl⟩
theorem w_5_208 : (.fieldLink RX12 247 "PlateRunnerModel" "spot" "I" : Cond) ∈ UW := um (tb_5 _ (List.mem_of_getElem? (i := 208) (by decide +kernel))) (by decide +kernel)
theorem fl_X12_247 : FL 1 RX12 247 10 29 (0, 0, 0, 0) .int false := ⟨by decide, ⟨_, rfl, rfl⟩, RX12, TX12, 62, tyX12, clk_10, by decide, w_5_208, rfl, rfl⟩
theorem w_5_209 : (.fieldLink RX12 250 "PlateRunnerModel" "beats" "I" : Cond) ∈ UW := um (tb_5 _ (List.mem_of_getElem? (i := 209) (by decide +kernel))) (by decide +kernel)
theorem fl_X12_250 : FL 1 RX12 250 10 30 (0, 0, 0, 0) .int false := ⟨by decide, ⟨_, rfl, rfl⟩, RX12, TX12, 62, tyX12, clk_10, by decide, w_5_209, rfl, rfl⟩
theorem w_5_210 : (.fieldLink RX12 253 "PlateRunnerModel" "fell" "I" : Cond) ∈ UW := um (tb_5 _ (List.mem_of_getElem? (i := 210) (by decide +kernel))) (by decide +kernel)
theorem fl_X12_253 : FL 1 RX12 253 10 31 (0, 0, 0, 0) .int false := ⟨by decide, ⟨_, rfl, rfl⟩, RX12, TX12, 62, tyX12, clk_10, by decide, w_5_210, rfl, rfl⟩
theorem w_5_211 : (.fieldLink RX12 256 "PlateRunnerModel" "spun" "I" : Cond) ∈ UW := um (tb_5 _ (List.mem_of_getElem? (i := 211) (by decide +kernel))) (by decide +kernel)
theorem fl_X12_256 : FL 1 RX12 256 10 32 (0, 0, 0, 0) .int false := ⟨by decide, ⟨_, rfl, rfl⟩, RX12, TX12, 62, tyX12, clk_10, by decide, w_5_211, rfl, rfl⟩
theorem w_5_212 : (.fieldLink RX12 259 "PlateRunnerModel" "vain" "I" : Cond) ∈ UW := um (tb_5 _ (List.mem_of_getElem? (i := 212) (by decide +kernel))) (by decide +kernel)
theorem fl_X12_259 : FL 1 RX12 259 10 33 (0, 0, 0, 0) .int false := ⟨by decide, ⟨_, rfl, rfl⟩, RX12, TX12, 62, tyX12, clk_10, by decide, w_5_212, rfl, rfl⟩
theorem w_5_213 : (.fieldLink RX12 262 "PlateRunnerModel" "ways" "I" : Cond) ∈ UW := um (tb_5 _ (List.mem_of_getElem? (i := 213) (by decide +kernel))) (by decide +kernel)
theorem fl_X12_262 : FL 1 RX12 262 10 34 (0, 0, 0, 0) .int false := ⟨by decide, ⟨_, rfl, rfl⟩, RX12, TX12, 62, tyX12, clk_10, by decide, w_5_213, rfl, rfl⟩
theorem w_5_214 : (.fieldLink RX12 265 "PlateRunnerModel" "calm" "I" : Cond) ∈ UW := um (tb_5 _ (List.mem_of_getElem? (i := 214) (by decide +kernel))) (by decide +kernel)
theorem fl_X12_265 : FL 1 RX12 265 10 35 (0, 0, 0, 0) .int false := ⟨by decide, ⟨_, rfl, rfl⟩, RX12, TX12, 62, tyX12, clk_10, by decide, w_5_214, rfl, rfl⟩
theorem w_5_215 : (.fieldLink RX12 268 "PlateRunnerModel" "longest" "I" : Cond) ∈ UW := um (tb_5 _ (List.mem_of_getElem? (i := 215) (by decide +kernel))) (by decide +kernel)
theorem fl_X12_268 : FL 1 RX12 268 10 36 (0, 0, 0, 0) .int false := ⟨by decide, ⟨_, rfl, rfl⟩, RX12, TX12, 62, tyX12, clk_10, by decide, w_5_215, rfl, rfl⟩
theorem w_5_216 : (.fieldLink RX12 271 "PlateRunnerModel" "worst" "I" : Cond) ∈ UW := um (tb_5 _ (List.mem_of_getElem? (i := 216) (by decide +kernel))) (by decide +kernel)
theorem fl_X12_271 : FL 1 RX12 271 10 37 (0, 0, 0, 0) .int false := ⟨by decide, ⟨_, rfl, rfl⟩, RX12, TX12, 62, tyX12, clk_10, by decide, w_5_216, rfl, rfl⟩
theorem w_5_219 : (.fieldLink RX12 298 "PlateRunnerModel" "show" "I" : Cond) ∈ UW := um (tb_5 _ (List.mem_of_getElem? (i := 219) (by decide +kernel))) (by decide +kernel)
theorem fl_X12_298 : FL 1 RX12 298 10 40 (0, 0, 0, 0) .int false := ⟨by decide, ⟨_, rfl, rfl⟩, RX12, TX12, 62, tyX12, clk_10, by decide, w_5_219, rfl, rfl⟩
theorem w_5_226 : (.fieldLink RX12 328 "PlateRunnerModel" "runner" "I" : Cond) ∈ UW := um (tb_5 _ (List.mem_of_getElem? (i := 226) (by decide +kernel))) (by decide +kernel)
theorem fl_X12_328 : FL 1 RX12 328 10 47 (0, 0, 0, 0) .int false := ⟨by decide, ⟨_, rfl, rfl⟩, RX12, TX12, 62, tyX12, clk_10, by decide, w_5_226, rfl, rfl⟩
theorem w_5_225 : (.fieldLink RX12 340 "PlateRunnerModel" "found" "I" : Cond) ∈ UW := um (tb_5 _ (List.mem_of_getElem? (i := 225) (by decide +kernel))) (by decide +kernel)
theorem fl_X12_340 : FL 1 RX12 340 10 46 (0, 0, 0, 0) .int false := ⟨by decide, ⟨_, rfl, rfl⟩, RX12, TX12, 62, tyX12, clk_10, by decide, w_5_225, rfl, rfl⟩
theorem w_5_228 : (.fieldLink RX12 368 "PlateRunnerModel" "gone" "I" : Cond) ∈ UW := um (tb_5 _ (List.mem_of_getElem? (i := 228) (by decide +kernel))) (by decide +kernel)
theorem fl_X12_368 : FL 1 RX12 368 10 49 (0, 0, 0, 0) .int false := ⟨by decide, ⟨_, rfl, rfl⟩, RX12, TX12, 62, tyX12, clk_10, by decide, w_5_228, rfl, rfl⟩
theorem w_5_230 : (.fieldLink RX12 424 "PlateRunnerModel" "which" "I" : Cond) ∈ UW := um (tb_5 _ (List.mem_of_getElem? (i := 230) (by decide +kernel))) (by decide +kernel)
theorem fl_X12_424 : FL 1 RX12 424 10 51 (0, 0, 0, 0) .int false := ⟨by decide, ⟨_, rfl, rfl⟩, RX12, TX12, 62, tyX12, clk_10, by decide, w_5_230, rfl, rfl⟩
theorem w_5_231 : (.fieldLink RX12 444 "PlateRunnerModel" "log" "I" : Cond) ∈ UW := um (tb_5 _ (List.mem_of_getElem? (i := 231) (by decide +kernel))) (by decide +kernel)
theorem fl_X12_444 : FL 1 RX12 444 10 52 (0, 0, 0, 0) .int false := ⟨by decide, ⟨_, rfl, rfl⟩, RX12, TX12, 62, tyX12, clk_10, by decide, w_5_231, rfl, rfl⟩
theorem w_5_232 : (.fieldLink RX12 462 "PlateRunnerModel" "fit" "I" : Cond) ∈ UW := um (tb_5 _ (List.mem_of_getElem? (i := 232) (by decide +kernel))) (by decide +kernel)
theorem fl_X12_462 : FL 1 RX12 462 10 53 (0, 0, 0, 0) .int false := ⟨by decide, ⟨_, rfl, rfl⟩, RX12, TX12, 62, tyX12, clk_10, by decide, w_5_232, rfl, rfl⟩
theorem w_5_233 : (.fieldLink RX12 468 "PlateRunnerModel" "asked" "I" : Cond) ∈ UW := um (tb_5 _ (List.mem_of_getElem? (i := 233) (by decide +kernel))) (by decide +kernel)
theorem fl_X12_468 : FL 1 RX12 468 10 54 (0, 0, 0, 0) .int false := ⟨by decide, ⟨_, rfl, rfl⟩, RX12, TX12, 62, tyX12, clk_10, by decide, w_5_233, rfl, rfl⟩
theorem w_5_234 : (.fieldLink RX12 471 "PlateRunnerModel" "shortest" "I" : Cond) ∈ UW := um (tb_5 _ (List.mem_of_getElem? (i := 234) (by decide +kernel))) (by decide +kernel)
theorem fl_X12_471 : FL 1 RX12 471 10 55 (0, 0, 0, 0) .int false := ⟨by decide, ⟨_, rfl, rfl⟩, RX12, TX12, 62, tyX12, clk_10, by decide, w_5_234, rfl, rfl⟩
theorem w_5_235 : (.fieldLink RX12 474 "PlateRunnerModel" "greatest" "I" : Cond) ∈ UW := um (tb_5 _ (List.mem_of_getElem? (i := 235) (by decide +kernel))) (by decide +kernel)
theorem fl_X12_474 : FL 1 RX12 474 10 56 (0, 0, 0, 0) .int false := ⟨by decide, ⟨_, rfl, rfl⟩, RX12, TX12, 62, tyX12, clk_10, by decide, w_5_235, rfl, rfl⟩
theorem w_5_236 : (.fieldLink RX12 477 "PlateRunnerModel" "up" "I" : Cond) ∈ UW := um (tb_5 _ (List.mem_of_getElem? (i := 236) (by decide +kernel))) (by decide +kernel)
theorem fl_X12_477 : FL 1 RX12 477 10 57 (0, 0, 0, 0) .int false := ⟨by decide, ⟨_, rfl, rfl⟩, RX12, TX12, 62, tyX12, clk_10, by decide, w_5_236, rfl, rfl⟩
theorem w_5_239 : (.fieldLink RX12 499 "PlateRunnerModel" "seed" "I" : Cond) ∈ UW := um (tb_5 _ (List.mem_of_getElem? (i := 239) (by decide +kernel))) (by decide +kernel)
theorem fl_X12_499 : FL 1 RX12 499 10 60 (0, 0, 0, 0) .int false := ⟨by decide, ⟨_, rfl, rfl⟩, RX12, TX12, 62, tyX12, clk_10, by decide, w_5_239, rfl, rfl⟩
def mJ0_charAt_5068e : MI := (yJ0_charAt_5068e, cJ0_charAt_5068e, 2, (some .char))
theorem w_3_53 : (.code yJ0_charAt_5068e cJ0_charAt_5068e 2 (some .char) : Cond) ∈ UW := um (tb_3 _ (List.mem_of_getElem? (i := 53) (by decide +kernel))) (by decide +kernel)
theorem w_1_13 : (.initialized RJ0 : Cond) ∈ UW := um (tb_1 _ (List.mem_of_getElem? (i := 13) (by decide +kernel))) (by decide +kernel)
theorem md_J0_charAt_5068e : MD mJ0_charAt_5068e 1 := ⟨by decide +kernel, by decide +kernel, by decide +kernel, by decide, w_3_53, w_1_13⟩
def mJ0_checkIndex_df160 : MI := (yJ0_checkIndex_df160, cJ0_checkIndex_df160, 2, none)
theorem w_3_63 : (.code yJ0_checkIndex_df160 cJ0_checkIndex_df160 2 none : Cond) ∈ UW := um (tb_3 _ (List.mem_of_getElem? (i := 63) (by decide +kernel))) (by decide +kernel)
theorem md_J0_checkIndex_df160 : MD mJ0_checkIndex_df160 2 := ⟨by decide +kernel, by decide +kernel, by decide +kernel, by decide, w_3_63, w_1_13⟩
def mJ0_coder_7d493 : MI := (yJ0_coder_7d493, cJ0_coder_7d493, 1, (some .byte))
theorem w_3_47 : (.code yJ0_coder_7d493 cJ0_coder_7d493 1 (some .byte) : Cond) ∈ UW := um (tb_3 _ (List.mem_of_getElem? (i := 47) (by decide +kernel))) (by decide +kernel)
theorem md_J0_coder_7d493 : MD mJ0_coder_7d493 0 := ⟨by decide +kernel, by decide +kernel, by decide +kernel, by decide, w_3_47, w_1_13⟩
def mJ0_isLatin1_aae02 : MI := (yJ0_isLatin1_aae02, cJ0_isLatin1_aae02, 1, (some .boolean))
theorem w_3_57 : (.code yJ0_isLatin1_aae02 cJ0_isLatin1_aae02 1 (some .boolean) : Cond) ∈ UW := um (tb_3 _ (List.mem_of_getElem? (i := 57) (by decide +kernel))) (by decide +kernel)
theorem md_J0_isLatin1_aae02 : MD mJ0_isLatin1_aae02 0 := ⟨by decide +kernel, by decide +kernel, by decide +kernel, by decide, w_3_57, w_1_13⟩
def mJ0_length_8abf5 : MI := (yJ0_length_8abf5, cJ0_length_8abf5, 1, (some .int))
theorem w_3_43 : (.code yJ0_length_8abf5 cJ0_length_8abf5 1 (some .int) : Cond) ∈ UW := um (tb_3 _ (List.mem_of_getElem? (i := 43) (by decide +kernel))) (by decide +kernel)
theorem md_J0_length_8abf5 : MD mJ0_length_8abf5 0 := ⟨by decide +kernel, by decide +kernel, by decide +kernel, by decide, w_3_43, w_1_13⟩
def mJ1_charAt_3b067 : MI := (yJ1_charAt_3b067, cJ1_charAt_3b067, 2, (some .char))
theorem w_3_60 : (.code yJ1_charAt_3b067 cJ1_charAt_3b067 2 (some .char) : Cond) ∈ UW := um (tb_3 _ (List.mem_of_getElem? (i := 60) (by decide +kernel))) (by decide +kernel)
theorem w_1_14 : (.initialized RJ1 : Cond) ∈ UW := um (tb_1 _ (List.mem_of_getElem? (i := 14) (by decide +kernel))) (by decide +kernel)
theorem md_J1_charAt_3b067 : MD mJ1_charAt_3b067 2 := ⟨by decide +kernel, by decide +kernel, by decide +kernel, by decide, w_3_60, w_1_14⟩
def mJ3_checkIndex_8e157 : MI := (yJ3_checkIndex_8e157, cJ3_checkIndex_8e157, 3, (some .int))
theorem w_3_68 : (.code yJ3_checkIndex_8e157 cJ3_checkIndex_8e157 3 (some .int) : Cond) ∈ UW := um (tb_3 _ (List.mem_of_getElem? (i := 68) (by decide +kernel))) (by decide +kernel)
theorem w_1_15 : (.initialized RJ3 : Cond) ∈ UW := um (tb_1 _ (List.mem_of_getElem? (i := 15) (by decide +kernel))) (by decide +kernel)
theorem md_J3_checkIndex_8e157 : MD mJ3_checkIndex_8e157 3 := ⟨by decide +kernel, by decide +kernel, by decide +kernel, by decide, w_3_68, w_1_15⟩
def mJ6_bitCount_0f7a4 : MI := (yJ6_bitCount_0f7a4, cJ6_bitCount_0f7a4, 1, (some .int))
theorem w_4_138 : (.code yJ6_bitCount_0f7a4 cJ6_bitCount_0f7a4 1 (some .int) : Cond) ∈ UW := um (tb_4 _ (List.mem_of_getElem? (i := 138) (by decide +kernel))) (by decide +kernel)
theorem w_1_19 : (.initialized RJ6 : Cond) ∈ UW := um (tb_1 _ (List.mem_of_getElem? (i := 19) (by decide +kernel))) (by decide +kernel)
theorem md_J6_bitCount_0f7a4 : MD mJ6_bitCount_0f7a4 1 := ⟨by decide +kernel, by decide +kernel, by decide +kernel, by decide, w_4_138, w_1_19⟩
def mX0_behindRun : MI := (yX0_behindRun, cX0_behindRun, 6, (some .int))
theorem w_4_65 : (.code yX0_behindRun cX0_behindRun 6 (some .int) : Cond) ∈ UW := um (tb_4 _ (List.mem_of_getElem? (i := 65) (by decide +kernel))) (by decide +kernel)
theorem w_1_18 : (.initialized RX0 : Cond) ∈ UW := um (tb_1 _ (List.mem_of_getElem? (i := 18) (by decide +kernel))) (by decide +kernel)
theorem md_X0_behindRun : MD mX0_behindRun 4 := ⟨by decide +kernel, by decide +kernel, by decide +kernel, by decide, w_4_65, w_1_18⟩
def mX0_inRow : MI := (yX0_inRow, cX0_inRow, 5, (some .int))
theorem w_5_115 : (.code yX0_inRow cX0_inRow 5 (some .int) : Cond) ∈ UW := um (tb_5 _ (List.mem_of_getElem? (i := 115) (by decide +kernel))) (by decide +kernel)
theorem md_X0_inRow : MD mX0_inRow 1 := ⟨by decide +kernel, by decide +kernel, by decide +kernel, by decide, w_5_115, w_1_18⟩
def mX0_isKept : MI := (yX0_isKept, cX0_isKept, 6, (some .boolean))
theorem w_4_58 : (.code yX0_isKept cX0_isKept 6 (some .boolean) : Cond) ∈ UW := um (tb_4 _ (List.mem_of_getElem? (i := 58) (by decide +kernel))) (by decide +kernel)
theorem md_X0_isKept : MD mX0_isKept 4 := ⟨by decide +kernel, by decide +kernel, by decide +kernel, by decide, w_4_58, w_1_18⟩
def mX0_leftOf : MI := (yX0_leftOf, cX0_leftOf, 2, (some .int))
theorem w_4_62 : (.code yX0_leftOf cX0_leftOf 2 (some .int) : Cond) ∈ UW := um (tb_4 _ (List.mem_of_getElem? (i := 62) (by decide +kernel))) (by decide +kernel)
theorem md_X0_leftOf : MD mX0_leftOf 2 := ⟨by decide +kernel, by decide +kernel, by decide +kernel, by decide, w_4_62, w_1_18⟩
def mX0_passed : MI := (yX0_passed, cX0_passed, 4, (some .int))
theorem w_4_68 : (.code yX0_passed cX0_passed 4 (some .int) : Cond) ∈ UW := um (tb_4 _ (List.mem_of_getElem? (i := 68) (by decide +kernel))) (by decide +kernel)
theorem md_X0_passed : MD mX0_passed 2 := ⟨by decide +kernel, by decide +kernel, by decide +kernel, by decide, w_4_68, w_1_18⟩
def mX0_soonest : MI := (yX0_soonest, cX0_soonest, 4, (some .int))
theorem w_4_78 : (.code yX0_soonest cX0_soonest 4 (some .int) : Cond) ∈ UW := um (tb_4 _ (List.mem_of_getElem? (i := 78) (by decide +kernel))) (by decide +kernel)
theorem md_X0_soonest : MD mX0_soonest 2 := ⟨by decide +kernel, by decide +kernel, by decide +kernel, by decide, w_4_78, w_1_18⟩
def mX0_standing : MI := (yX0_standing, cX0_standing, 3, (some .int))
theorem w_4_203 : (.code yX0_standing cX0_standing 3 (some .int) : Cond) ∈ UW := um (tb_4 _ (List.mem_of_getElem? (i := 203) (by decide +kernel))) (by decide +kernel)
theorem md_X0_standing : MD mX0_standing 1 := ⟨by decide +kernel, by decide +kernel, by decide +kernel, by decide, w_4_203, w_1_18⟩
def mX0_with : MI := (yX0_with, cX0_with, 3, (some .int))
theorem w_4_42 : (.code yX0_with cX0_with 3 (some .int) : Cond) ∈ UW := um (tb_4 _ (List.mem_of_getElem? (i := 42) (by decide +kernel))) (by decide +kernel)
theorem md_X0_with : MD mX0_with 3 := ⟨by decide +kernel, by decide +kernel, by decide +kernel, by decide, w_4_42, w_1_18⟩
def mX10_alonePlates : MI := (yX10_alonePlates, cX10_alonePlates, 4, (some .int))
theorem w_5_103 : (.code yX10_alonePlates cX10_alonePlates 4 (some .int) : Cond) ∈ UW := um (tb_5 _ (List.mem_of_getElem? (i := 103) (by decide +kernel))) (by decide +kernel)
theorem w_1_8 : (.initialized RX10 : Cond) ∈ UW := um (tb_1 _ (List.mem_of_getElem? (i := 8) (by decide +kernel))) (by decide +kernel)
theorem md_X10_alonePlates : MD mX10_alonePlates 1 := ⟨by decide +kernel, by decide +kernel, by decide +kernel, by decide, w_5_103, w_1_8⟩
def mX10_areKept : MI := (yX10_areKept, cX10_areKept, 3, (some .boolean))
theorem w_4_145 : (.code yX10_areKept cX10_areKept 3 (some .boolean) : Cond) ∈ UW := um (tb_4 _ (List.mem_of_getElem? (i := 145) (by decide +kernel))) (by decide +kernel)
theorem md_X10_areKept : MD mX10_areKept 2 := ⟨by decide +kernel, by decide +kernel, by decide +kernel, by decide, w_4_145, w_1_8⟩
def mX10_bestSwap : MI := (yX10_bestSwap, cX10_bestSwap, 4, (some .int))
theorem w_5_131 : (.code yX10_bestSwap cX10_bestSwap 4 (some .int) : Cond) ∈ UW := um (tb_5 _ (List.mem_of_getElem? (i := 131) (by decide +kernel))) (by decide +kernel)
theorem md_X10_bestSwap : MD mX10_bestSwap 1 := ⟨by decide +kernel, by decide +kernel, by decide +kernel, by decide, w_5_131, w_1_8⟩
def mX10_couplesAlone : MI := (yX10_couplesAlone, cX10_couplesAlone, 5, (some .int))
theorem w_5_107 : (.code yX10_couplesAlone cX10_couplesAlone 5 (some .int) : Cond) ∈ UW := um (tb_5 _ (List.mem_of_getElem? (i := 107) (by decide +kernel))) (by decide +kernel)
theorem md_X10_couplesAlone : MD mX10_couplesAlone 1 := ⟨by decide +kernel, by decide +kernel, by decide +kernel, by decide, w_5_107, w_1_8⟩
def mX10_init : MI := (yX10_init, cX10_init, 1, none)
theorem w_2_55 : (.code yX10_init cX10_init 1 none : Cond) ∈ UW := um (tb_2 _ (List.mem_of_getElem? (i := 55) (by decide +kernel))) (by decide +kernel)
theorem md_X10_init : MD mX10_init 0 := ⟨by decide +kernel, by decide +kernel, by decide +kernel, by decide, w_2_55, w_1_8⟩
def mX10_leastLife : MI := (yX10_leastLife, cX10_leastLife, 4, (some .int))
theorem w_4_172 : (.code yX10_leastLife cX10_leastLife 4 (some .int) : Cond) ∈ UW := um (tb_4 _ (List.mem_of_getElem? (i := 172) (by decide +kernel))) (by decide +kernel)
theorem md_X10_leastLife : MD mX10_leastLife 2 := ⟨by decide +kernel, by decide +kernel, by decide +kernel, by decide, w_4_172, w_1_8⟩
def mX10_leastSpeed : MI := (yX10_leastSpeed, cX10_leastSpeed, 3, (some .int))
theorem w_4_125 : (.code yX10_leastSpeed cX10_leastSpeed 3 (some .int) : Cond) ∈ UW := um (tb_4 _ (List.mem_of_getElem? (i := 125) (by decide +kernel))) (by decide +kernel)
theorem md_X10_leastSpeed : MD mX10_leastSpeed 1 := ⟨by decide +kernel, by decide +kernel, by decide +kernel, by decide, w_4_125, w_1_8⟩
def mX10_mostKept : MI := (yX10_mostKept, cX10_mostKept, 4, (some .int))
theorem w_4_135 : (.code yX10_mostKept cX10_mostKept 4 (some .int) : Cond) ∈ UW := um (tb_4 _ (List.mem_of_getElem? (i := 135) (by decide +kernel))) (by decide +kernel)
theorem md_X10_mostKept : MD mX10_mostKept 1 := ⟨by decide +kernel, by decide +kernel, by decide +kernel, by decide, w_4_135, w_1_8⟩
def mX10_movePlaces : MI := (yX10_movePlaces, cX10_movePlaces, 5, (some .int))
theorem w_4_178 : (.code yX10_movePlaces cX10_movePlaces 5 (some .int) : Cond) ∈ UW := um (tb_4 _ (List.mem_of_getElem? (i := 178) (by decide +kernel))) (by decide +kernel)
theorem md_X10_movePlaces : MD mX10_movePlaces 2 := ⟨by decide +kernel, by decide +kernel, by decide +kernel, by decide, w_4_178, w_1_8⟩
def mX10_sparePlates : MI := (yX10_sparePlates, cX10_sparePlates, 5, (some .int))
theorem w_4_155 : (.code yX10_sparePlates cX10_sparePlates 5 (some .int) : Cond) ∈ UW := um (tb_4 _ (List.mem_of_getElem? (i := 155) (by decide +kernel))) (by decide +kernel)
theorem md_X10_sparePlates : MD mX10_sparePlates 1 := ⟨by decide +kernel, by decide +kernel, by decide +kernel, by decide, w_4_155, w_1_8⟩
def mX10_startPlaces : MI := (yX10_startPlaces, cX10_startPlaces, 4, (some .int))
theorem w_4_131 : (.code yX10_startPlaces cX10_startPlaces 4 (some .int) : Cond) ∈ UW := um (tb_4 _ (List.mem_of_getElem? (i := 131) (by decide +kernel))) (by decide +kernel)
theorem md_X10_startPlaces : MD mX10_startPlaces 1 := ⟨by decide +kernel, by decide +kernel, by decide +kernel, by decide, w_4_131, w_1_8⟩
def mX11_after : MI := (yX11_after, cX11_after, 6, (some .int))
theorem w_5_143 : (.code yX11_after cX11_after 6 (some .int) : Cond) ∈ UW := um (tb_5 _ (List.mem_of_getElem? (i := 143) (by decide +kernel))) (by decide +kernel)
theorem w_1_1 : (.initialized RX11 : Cond) ∈ UW := um (tb_1 _ (List.mem_of_getElem? (i := 1) (by decide +kernel))) (by decide +kernel)
theorem md_X11_after : MD mX11_after 3 := ⟨by decide +kernel, by decide +kernel, by decide +kernel, by decide, w_5_143, w_1_1⟩
def mX11_again : MI := (yX11_again, cX11_again, 2, (some .boolean))
theorem w_5_171 : (.code yX11_again cX11_again 2 (some .boolean) : Cond) ∈ UW := um (tb_5 _ (List.mem_of_getElem? (i := 171) (by decide +kernel))) (by decide +kernel)
theorem md_X11_again : MD mX11_again 1 := ⟨by decide +kernel, by decide +kernel, by decide +kernel, by decide, w_5_171, w_1_1⟩
def mX11_behind : MI := (yX11_behind, cX11_behind, 6, (some .int))
theorem w_4_182 : (.code yX11_behind cX11_behind 6 (some .int) : Cond) ∈ UW := um (tb_4 _ (List.mem_of_getElem? (i := 182) (by decide +kernel))) (by decide +kernel)
theorem md_X11_behind : MD mX11_behind 3 := ⟨by decide +kernel, by decide +kernel, by decide +kernel, by decide, w_4_182, w_1_1⟩
def mX11_commonDivisor : MI := (yX11_commonDivisor, cX11_commonDivisor, 6, (some .int))
theorem w_5_5 : (.code yX11_commonDivisor cX11_commonDivisor 6 (some .int) : Cond) ∈ UW := um (tb_5 _ (List.mem_of_getElem? (i := 5) (by decide +kernel))) (by decide +kernel)
theorem md_X11_commonDivisor : MD mX11_commonDivisor 2 := ⟨by decide +kernel, by decide +kernel, by decide +kernel, by decide, w_5_5, w_1_1⟩
def mX11_count : MI := (yX11_count, cX11_count, 2, (some .int))
theorem w_5_155 : (.code yX11_count cX11_count 2 (some .int) : Cond) ∈ UW := um (tb_5 _ (List.mem_of_getElem? (i := 155) (by decide +kernel))) (by decide +kernel)
theorem md_X11_count : MD mX11_count 1 := ⟨by decide +kernel, by decide +kernel, by decide +kernel, by decide, w_5_155, w_1_1⟩
def mX11_deed : MI := (yX11_deed, cX11_deed, 5, (some .int))
theorem w_3_175 : (.code yX11_deed cX11_deed 5 (some .int) : Cond) ∈ UW := um (tb_3 _ (List.mem_of_getElem? (i := 175) (by decide +kernel))) (by decide +kernel)
theorem md_X11_deed : MD mX11_deed 3 := ⟨by decide +kernel, by decide +kernel, by decide +kernel, by decide, w_3_175, w_1_1⟩
def mX11_drawn : MI := (yX11_drawn, cX11_drawn, 6, (some .int))
theorem w_5_67 : (.code yX11_drawn cX11_drawn 6 (some .int) : Cond) ∈ UW := um (tb_5 _ (List.mem_of_getElem? (i := 67) (by decide +kernel))) (by decide +kernel)
theorem md_X11_drawn : MD mX11_drawn 4 := ⟨by decide +kernel, by decide +kernel, by decide +kernel, by decide, w_5_67, w_1_1⟩
def mX11_duel : MI := (yX11_duel, cX11_duel, 6, (some .int))
theorem w_4_222 : (.code yX11_duel cX11_duel 6 (some .int) : Cond) ∈ UW := um (tb_4 _ (List.mem_of_getElem? (i := 222) (by decide +kernel))) (by decide +kernel)
theorem md_X11_duel : MD mX11_duel 3 := ⟨by decide +kernel, by decide +kernel, by decide +kernel, by decide, w_4_222, w_1_1⟩
def mX11_end : MI := (yX11_end, cX11_end, 2, (some .int))
theorem w_2_209 : (.code yX11_end cX11_end 2 (some .int) : Cond) ∈ UW := um (tb_2 _ (List.mem_of_getElem? (i := 209) (by decide +kernel))) (by decide +kernel)
theorem md_X11_end : MD mX11_end 1 := ⟨by decide +kernel, by decide +kernel, by decide +kernel, by decide, w_2_209, w_1_1⟩
def mX11_fault : MI := (yX11_fault, cX11_fault, 2, (some .int))
theorem w_3_155 : (.code yX11_fault cX11_fault 2 (some .int) : Cond) ∈ UW := um (tb_3 _ (List.mem_of_getElem? (i := 155) (by decide +kernel))) (by decide +kernel)
theorem md_X11_fault : MD mX11_fault 1 := ⟨by decide +kernel, by decide +kernel, by decide +kernel, by decide, w_3_155, w_1_1⟩
def mX11_feed : MI := (yX11_feed, cX11_feed, 6, (some .int))
theorem w_2_201 : (.code yX11_feed cX11_feed 6 (some .int) : Cond) ∈ UW := um (tb_2 _ (List.mem_of_getElem? (i := 201) (by decide +kernel))) (by decide +kernel)
theorem md_X11_feed : MD mX11_feed 5 := ⟨by decide +kernel, by decide +kernel, by decide +kernel, by decide, w_2_201, w_1_1⟩
def mX11_fits : MI := (yX11_fits, cX11_fits, 6, (some .int))
theorem w_5_22 : (.code yX11_fits cX11_fits 6 (some .int) : Cond) ∈ UW := um (tb_5 _ (List.mem_of_getElem? (i := 22) (by decide +kernel))) (by decide +kernel)
theorem md_X11_fits : MD mX11_fits 3 := ⟨by decide +kernel, by decide +kernel, by decide +kernel, by decide, w_5_22, w_1_1⟩
def mX11_image : MI := (yX11_image, cX11_image, 2, (some .boolean))
theorem w_5_159 : (.code yX11_image cX11_image 2 (some .boolean) : Cond) ∈ UW := um (tb_5 _ (List.mem_of_getElem? (i := 159) (by decide +kernel))) (by decide +kernel)
theorem md_X11_image : MD mX11_image 1 := ⟨by decide +kernel, by decide +kernel, by decide +kernel, by decide, w_5_159, w_1_1⟩
def mX11_init : MI := (yX11_init, cX11_init, 2, none)
theorem w_1_25 : (.code yX11_init cX11_init 2 none : Cond) ∈ UW := um (tb_1 _ (List.mem_of_getElem? (i := 25) (by decide +kernel))) (by decide +kernel)
theorem md_X11_init : MD mX11_init 0 := ⟨by decide +kernel, by decide +kernel, by decide +kernel, by decide, w_1_25, w_1_1⟩
def mX11_keep : MI := (yX11_keep, cX11_keep, 4, (some .int))
theorem w_4_13 : (.code yX11_keep cX11_keep 4 (some .int) : Cond) ∈ UW := um (tb_4 _ (List.mem_of_getElem? (i := 13) (by decide +kernel))) (by decide +kernel)
theorem md_X11_keep : MD mX11_keep 2 := ⟨by decide +kernel, by decide +kernel, by decide +kernel, by decide, w_4_13, w_1_1⟩
def mX11_least : MI := (yX11_least, cX11_least, 6, (some .int))
theorem w_5_151 : (.code yX11_least cX11_least 6 (some .int) : Cond) ∈ UW := um (tb_5 _ (List.mem_of_getElem? (i := 151) (by decide +kernel))) (by decide +kernel)
theorem md_X11_least : MD mX11_least 3 := ⟨by decide +kernel, by decide +kernel, by decide +kernel, by decide, w_5_151, w_1_1⟩
def mX11_load : MI := (yX11_load, cX11_load, 4, (some .int))
theorem w_5_83 : (.code yX11_load cX11_load 4 (some .int) : Cond) ∈ UW := um (tb_5 _ (List.mem_of_getElem? (i := 83) (by decide +kernel))) (by decide +kernel)
theorem md_X11_load : MD mX11_load 2 := ⟨by decide +kernel, by decide +kernel, by decide +kernel, by decide, w_5_83, w_1_1⟩
def mX11_log : MI := (yX11_log, cX11_log, 4, (some .int))
theorem w_5_10 : (.code yX11_log cX11_log 4 (some .int) : Cond) ∈ UW := um (tb_5 _ (List.mem_of_getElem? (i := 10) (by decide +kernel))) (by decide +kernel)
theorem md_X11_log : MD mX11_log 2 := ⟨by decide +kernel, by decide +kernel, by decide +kernel, by decide, w_5_10, w_1_1⟩
def mX11_need : MI := (yX11_need, cX11_need, 4, (some .int))
theorem w_4_121 : (.code yX11_need cX11_need 4 (some .int) : Cond) ∈ UW := um (tb_4 _ (List.mem_of_getElem? (i := 121) (by decide +kernel))) (by decide +kernel)
theorem md_X11_need : MD mX11_need 2 := ⟨by decide +kernel, by decide +kernel, by decide +kernel, by decide, w_4_121, w_1_1⟩
def mX11_needOfPlate : MI := (yX11_needOfPlate, cX11_needOfPlate, 3, (some .int))
theorem w_4_167 : (.code yX11_needOfPlate cX11_needOfPlate 3 (some .int) : Cond) ∈ UW := um (tb_4 _ (List.mem_of_getElem? (i := 167) (by decide +kernel))) (by decide +kernel)
theorem md_X11_needOfPlate : MD mX11_needOfPlate 2 := ⟨by decide +kernel, by decide +kernel, by decide +kernel, by decide, w_4_167, w_1_1⟩
def mX11_numberFor : MI := (yX11_numberFor, cX11_numberFor, 4, (some .int))
theorem w_2_217 : (.code yX11_numberFor cX11_numberFor 4 (some .int) : Cond) ∈ UW := um (tb_2 _ (List.mem_of_getElem? (i := 217) (by decide +kernel))) (by decide +kernel)
theorem md_X11_numberFor : MD mX11_numberFor 2 := ⟨by decide +kernel, by decide +kernel, by decide +kernel, by decide, w_2_217, w_1_1⟩
def mX11_odds : MI := (yX11_odds, cX11_odds, 10, (some .int))
theorem w_4_236 : (.code yX11_odds cX11_odds 10 (some .int) : Cond) ∈ UW := um (tb_4 _ (List.mem_of_getElem? (i := 236) (by decide +kernel))) (by decide +kernel)
theorem md_X11_odds : MD mX11_odds 5 := ⟨by decide +kernel, by decide +kernel, by decide +kernel, by decide, w_4_236, w_1_1⟩
def mX11_power : MI := (yX11_power, cX11_power, 4, (some .int))
theorem w_5_2 : (.code yX11_power cX11_power 4 (some .int) : Cond) ∈ UW := um (tb_5 _ (List.mem_of_getElem? (i := 2) (by decide +kernel))) (by decide +kernel)
theorem md_X11_power : MD mX11_power 2 := ⟨by decide +kernel, by decide +kernel, by decide +kernel, by decide, w_5_2, w_1_1⟩
def mX11_save : MI := (yX11_save, cX11_save, 6, (some .int))
theorem w_4_192 : (.code yX11_save cX11_save 6 (some .int) : Cond) ∈ UW := um (tb_4 _ (List.mem_of_getElem? (i := 192) (by decide +kernel))) (by decide +kernel)
theorem md_X11_save : MD mX11_save 3 := ⟨by decide +kernel, by decide +kernel, by decide +kernel, by decide, w_4_192, w_1_1⟩
def mX11_stage : MI := (yX11_stage, cX11_stage, 4, (some .int))
theorem w_3_159 : (.code yX11_stage cX11_stage 4 (some .int) : Cond) ∈ UW := um (tb_3 _ (List.mem_of_getElem? (i := 159) (by decide +kernel))) (by decide +kernel)
theorem md_X11_stage : MD mX11_stage 2 := ⟨by decide +kernel, by decide +kernel, by decide +kernel, by decide, w_3_159, w_1_1⟩
def mX11_state : MI := (yX11_state, cX11_state, 7, (some .int))
theorem w_4_1 : (.code yX11_state cX11_state 7 (some .int) : Cond) ∈ UW := um (tb_4 _ (List.mem_of_getElem? (i := 1) (by decide +kernel))) (by decide +kernel)
theorem md_X11_state : MD mX11_state 4 := ⟨by decide +kernel, by decide +kernel, by decide +kernel, by decide, w_4_1, w_1_1⟩
def mX11_stop : MI := (yX11_stop, cX11_stop, 5, (some .int))
theorem w_3_187 : (.code yX11_stop cX11_stop 5 (some .int) : Cond) ∈ UW := um (tb_3 _ (List.mem_of_getElem? (i := 187) (by decide +kernel))) (by decide +kernel)
theorem md_X11_stop : MD mX11_stop 2 := ⟨by decide +kernel, by decide +kernel, by decide +kernel, by decide, w_3_187, w_1_1⟩
def mX11_takeRead : MI := (yX11_takeRead, cX11_takeRead, 3, none)
theorem w_3_134 : (.code yX11_takeRead cX11_takeRead 3 none : Cond) ∈ UW := um (tb_3 _ (List.mem_of_getElem? (i := 134) (by decide +kernel))) (by decide +kernel)
theorem md_X11_takeRead : MD mX11_takeRead 2 := ⟨by decide +kernel, by decide +kernel, by decide +kernel, by decide, w_3_134, w_1_1⟩
def mX11_text : MI := (yX11_text, cX11_text, 4, (some .int))
theorem w_2_213 : (.code yX11_text cX11_text 4 (some .int) : Cond) ∈ UW := um (tb_2 _ (List.mem_of_getElem? (i := 213) (by decide +kernel))) (by decide +kernel)
theorem md_X11_text : MD mX11_text 2 := ⟨by decide +kernel, by decide +kernel, by decide +kernel, by decide, w_2_213, w_1_1⟩
def mX11_waysToStand : MI := (yX11_waysToStand, cX11_waysToStand, 6, (some .int))
theorem w_4_239 : (.code yX11_waysToStand cX11_waysToStand 6 (some .int) : Cond) ∈ UW := um (tb_4 _ (List.mem_of_getElem? (i := 239) (by decide +kernel))) (by decide +kernel)
theorem md_X11_waysToStand : MD mX11_waysToStand 3 := ⟨by decide +kernel, by decide +kernel, by decide +kernel, by decide, w_4_239, w_1_1⟩
def mX12_addStand : MI := (yX12_addStand, cX12_addStand, 2, none)
theorem w_7_108 : (.code yX12_addStand cX12_addStand 2 none : Cond) ∈ UW := um (tb_7 _ (List.mem_of_getElem? (i := 108) (by decide +kernel))) (by decide +kernel)
theorem w_1_11 : (.initialized RX12 : Cond) ∈ UW := um (tb_1 _ (List.mem_of_getElem? (i := 11) (by decide +kernel))) (by decide +kernel)
theorem md_X12_addStand : MD mX12_addStand 1 := ⟨by decide +kernel, by decide +kernel, by decide +kernel, by decide, w_7_108, w_1_11⟩
def mX12_addsFault : MI := (yX12_addsFault, cX12_addsFault, 3, none)
theorem w_6_181 : (.code yX12_addsFault cX12_addsFault 3 none : Cond) ∈ UW := um (tb_6 _ (List.mem_of_getElem? (i := 181) (by decide +kernel))) (by decide +kernel)
theorem md_X12_addsFault : MD mX12_addsFault 2 := ⟨by decide +kernel, by decide +kernel, by decide +kernel, by decide, w_6_181, w_1_11⟩
def mX12_after : MI := (yX12_after, cX12_after, 8, (some .int))
theorem w_8_117 : (.code yX12_after cX12_after 8 (some .int) : Cond) ∈ UW := um (tb_8 _ (List.mem_of_getElem? (i := 117) (by decide +kernel))) (by decide +kernel)
theorem md_X12_after : MD mX12_after 3 := ⟨by decide +kernel, by decide +kernel, by decide +kernel, by decide, w_8_117, w_1_11⟩
def mX12_again : MI := (yX12_again, cX12_again, 2, (some .boolean))
theorem w_8_140 : (.code yX12_again cX12_again 2 (some .boolean) : Cond) ∈ UW := um (tb_8 _ (List.mem_of_getElem? (i := 140) (by decide +kernel))) (by decide +kernel)
theorem md_X12_again : MD mX12_again 1 := ⟨by decide +kernel, by decide +kernel, by decide +kernel, by decide, w_8_140, w_1_11⟩
def mX12_allLines : MI := (yX12_allLines, cX12_allLines, 6, (some .boolean))
theorem w_6_164 : (.code yX12_allLines cX12_allLines 6 (some .boolean) : Cond) ∈ UW := um (tb_6 _ (List.mem_of_getElem? (i := 164) (by decide +kernel))) (by decide +kernel)
theorem md_X12_allLines : MD mX12_allLines 1 := ⟨by decide +kernel, by decide +kernel, by decide +kernel, by decide, w_6_164, w_1_11⟩
def mX12_aloneOf : MI := (yX12_aloneOf, cX12_aloneOf, 3, (some .int))
theorem w_8_89 : (.code yX12_aloneOf cX12_aloneOf 3 (some .int) : Cond) ∈ UW := um (tb_8 _ (List.mem_of_getElem? (i := 89) (by decide +kernel))) (by decide +kernel)
theorem md_X12_aloneOf : MD mX12_aloneOf 0 := ⟨by decide +kernel, by decide +kernel, by decide +kernel, by decide, w_8_89, w_1_11⟩
def mX12_asTold : MI := (yX12_asTold, cX12_asTold, 2, none)
theorem w_6_234 : (.code yX12_asTold cX12_asTold 2 none : Cond) ∈ UW := um (tb_6 _ (List.mem_of_getElem? (i := 234) (by decide +kernel))) (by decide +kernel)
theorem md_X12_asTold : MD mX12_asTold 0 := ⟨by decide +kernel, by decide +kernel, by decide +kernel, by decide, w_6_234, w_1_11⟩
def mX12_askWhat : MI := (yX12_askWhat, cX12_askWhat, 5, (some .int))
theorem w_8_52 : (.code yX12_askWhat cX12_askWhat 5 (some .int) : Cond) ∈ UW := um (tb_8 _ (List.mem_of_getElem? (i := 52) (by decide +kernel))) (by decide +kernel)
theorem md_X12_askWhat : MD mX12_askWhat 0 := ⟨by decide +kernel, by decide +kernel, by decide +kernel, by decide, w_8_52, w_1_11⟩
def mX12_beat : MI := (yX12_beat, cX12_beat, 4, none)
theorem w_7_54 : (.code yX12_beat cX12_beat 4 none : Cond) ∈ UW := um (tb_7 _ (List.mem_of_getElem? (i := 54) (by decide +kernel))) (by decide +kernel)
theorem md_X12_beat : MD mX12_beat 1 := ⟨by decide +kernel, by decide +kernel, by decide +kernel, by decide, w_7_54, w_1_11⟩
def mX12_beatsTo : MI := (yX12_beatsTo, cX12_beatsTo, 2, (some .int))
theorem w_7_120 : (.code yX12_beatsTo cX12_beatsTo 2 (some .int) : Cond) ∈ UW := um (tb_7 _ (List.mem_of_getElem? (i := 120) (by decide +kernel))) (by decide +kernel)
theorem md_X12_beatsTo : MD mX12_beatsTo 1 := ⟨by decide +kernel, by decide +kernel, by decide +kernel, by decide, w_7_120, w_1_11⟩
def mX12_beginShow : MI := (yX12_beginShow, cX12_beginShow, 2, none)
theorem w_7_30 : (.code yX12_beginShow cX12_beginShow 2 none : Cond) ∈ UW := um (tb_7 _ (List.mem_of_getElem? (i := 30) (by decide +kernel))) (by decide +kernel)
theorem md_X12_beginShow : MD mX12_beginShow 0 := ⟨by decide +kernel, by decide +kernel, by decide +kernel, by decide, w_7_30, w_1_11⟩
def mX12_behind : MI := (yX12_behind, cX12_behind, 6, (some .int))
theorem w_7_196 : (.code yX12_behind cX12_behind 6 (some .int) : Cond) ∈ UW := um (tb_7 _ (List.mem_of_getElem? (i := 196) (by decide +kernel))) (by decide +kernel)
theorem md_X12_behind : MD mX12_behind 3 := ⟨by decide +kernel, by decide +kernel, by decide +kernel, by decide, w_7_196, w_1_11⟩
def mX12_behindRun : MI := (yX12_behindRun, cX12_behindRun, 4, (some .int))
theorem w_7_128 : (.code yX12_behindRun cX12_behindRun 4 (some .int) : Cond) ∈ UW := um (tb_7 _ (List.mem_of_getElem? (i := 128) (by decide +kernel))) (by decide +kernel)
theorem md_X12_behindRun : MD mX12_behindRun 1 := ⟨by decide +kernel, by decide +kernel, by decide +kernel, by decide, w_7_128, w_1_11⟩
def mX12_centre : MI := (yX12_centre, cX12_centre, 3, (some .int))
theorem w_8_105 : (.code yX12_centre cX12_centre 3 (some .int) : Cond) ∈ UW := um (tb_8 _ (List.mem_of_getElem? (i := 105) (by decide +kernel))) (by decide +kernel)
theorem md_X12_centre : MD mX12_centre 0 := ⟨by decide +kernel, by decide +kernel, by decide +kernel, by decide, w_8_105, w_1_11⟩
def mX12_close : MI := (yX12_close, cX12_close, 3, (some .int))
theorem w_7_101 : (.code yX12_close cX12_close 3 (some .int) : Cond) ∈ UW := um (tb_7 _ (List.mem_of_getElem? (i := 101) (by decide +kernel))) (by decide +kernel)
theorem md_X12_close : MD mX12_close 0 := ⟨by decide +kernel, by decide +kernel, by decide +kernel, by decide, w_7_101, w_1_11⟩
def mX12_common : MI := (yX12_common, cX12_common, 5, (some .int))
theorem w_7_236 : (.code yX12_common cX12_common 5 (some .int) : Cond) ∈ UW := um (tb_7 _ (List.mem_of_getElem? (i := 236) (by decide +kernel))) (by decide +kernel)
theorem md_X12_common : MD mX12_common 2 := ⟨by decide +kernel, by decide +kernel, by decide +kernel, by decide, w_7_236, w_1_11⟩
def mX12_copyAll : MI := (yX12_copyAll, cX12_copyAll, 4, none)
theorem w_8_133 : (.code yX12_copyAll cX12_copyAll 4 none : Cond) ∈ UW := um (tb_8 _ (List.mem_of_getElem? (i := 133) (by decide +kernel))) (by decide +kernel)
theorem md_X12_copyAll : MD mX12_copyAll 2 := ⟨by decide +kernel, by decide +kernel, by decide +kernel, by decide, w_8_133, w_1_11⟩
def mX12_copyRow : MI := (yX12_copyRow, cX12_copyRow, 5, none)
theorem w_8_136 : (.code yX12_copyRow cX12_copyRow 5 none : Cond) ∈ UW := um (tb_8 _ (List.mem_of_getElem? (i := 136) (by decide +kernel))) (by decide +kernel)
theorem md_X12_copyRow : MD mX12_copyRow 4 := ⟨by decide +kernel, by decide +kernel, by decide +kernel, by decide, w_8_136, w_1_11⟩
def mX12_count : MI := (yX12_count, cX12_count, 2, (some .int))
theorem w_8_125 : (.code yX12_count cX12_count 2 (some .int) : Cond) ∈ UW := um (tb_8 _ (List.mem_of_getElem? (i := 125) (by decide +kernel))) (by decide +kernel)
theorem md_X12_count : MD mX12_count 1 := ⟨by decide +kernel, by decide +kernel, by decide +kernel, by decide, w_8_125, w_1_11⟩
def mX12_couples : MI := (yX12_couples, cX12_couples, 5, (some .int))
theorem w_8_85 : (.code yX12_couples cX12_couples 5 (some .int) : Cond) ∈ UW := um (tb_8 _ (List.mem_of_getElem? (i := 85) (by decide +kernel))) (by decide +kernel)
theorem md_X12_couples : MD mX12_couples 1 := ⟨by decide +kernel, by decide +kernel, by decide +kernel, by decide, w_8_85, w_1_11⟩
def mX12_deed : MI := (yX12_deed, cX12_deed, 4, (some .int))
theorem w_7_6 : (.code yX12_deed cX12_deed 4 (some .int) : Cond) ∈ UW := um (tb_7 _ (List.mem_of_getElem? (i := 6) (by decide +kernel))) (by decide +kernel)
theorem md_X12_deed : MD mX12_deed 3 := ⟨by decide +kernel, by decide +kernel, by decide +kernel, by decide, w_7_6, w_1_11⟩
def mX12_deedBy : MI := (yX12_deedBy, cX12_deedBy, 3, (some .int))
theorem w_6_202 : (.code yX12_deedBy cX12_deedBy 3 (some .int) : Cond) ∈ UW := um (tb_6 _ (List.mem_of_getElem? (i := 202) (by decide +kernel))) (by decide +kernel)
theorem md_X12_deedBy : MD mX12_deedBy 1 := ⟨by decide +kernel, by decide +kernel, by decide +kernel, by decide, w_6_202, w_1_11⟩
def mX12_deedOf : MI := (yX12_deedOf, cX12_deedOf, 3, (some .int))
theorem w_7_18 : (.code yX12_deedOf cX12_deedOf 3 (some .int) : Cond) ∈ UW := um (tb_7 _ (List.mem_of_getElem? (i := 18) (by decide +kernel))) (by decide +kernel)
theorem md_X12_deedOf : MD mX12_deedOf 2 := ⟨by decide +kernel, by decide +kernel, by decide +kernel, by decide, w_7_18, w_1_11⟩
def mX12_deeds : MI := (yX12_deeds, cX12_deeds, 1, (some .int))
theorem w_7_14 : (.code yX12_deeds cX12_deeds 1 (some .int) : Cond) ∈ UW := um (tb_7 _ (List.mem_of_getElem? (i := 14) (by decide +kernel))) (by decide +kernel)
theorem md_X12_deeds : MD mX12_deeds 0 := ⟨by decide +kernel, by decide +kernel, by decide +kernel, by decide, w_7_14, w_1_11⟩
def mX12_digit : MI := (yX12_digit, cX12_digit, 4, (some .int))
theorem w_7_211 : (.code yX12_digit cX12_digit 4 (some .int) : Cond) ∈ UW := um (tb_7 _ (List.mem_of_getElem? (i := 211) (by decide +kernel))) (by decide +kernel)
theorem md_X12_digit : MD mX12_digit 3 := ⟨by decide +kernel, by decide +kernel, by decide +kernel, by decide, w_7_211, w_1_11⟩
def mX12_does : MI := (yX12_does, cX12_does, 3, (some .boolean))
theorem w_7_46 : (.code yX12_does cX12_does 3 (some .boolean) : Cond) ∈ UW := um (tb_7 _ (List.mem_of_getElem? (i := 46) (by decide +kernel))) (by decide +kernel)
theorem md_X12_does : MD mX12_does 2 := ⟨by decide +kernel, by decide +kernel, by decide +kernel, by decide, w_7_46, w_1_11⟩
def mX12_doesDeed : MI := (yX12_doesDeed, cX12_doesDeed, 2, (some .boolean))
theorem w_7_42 : (.code yX12_doesDeed cX12_doesDeed 2 (some .boolean) : Cond) ∈ UW := um (tb_7 _ (List.mem_of_getElem? (i := 42) (by decide +kernel))) (by decide +kernel)
theorem md_X12_doesDeed : MD mX12_doesDeed 1 := ⟨by decide +kernel, by decide +kernel, by decide +kernel, by decide, w_7_42, w_1_11⟩
def mX12_draw : MI := (yX12_draw, cX12_draw, 2, (some .int))
theorem w_8_64 : (.code yX12_draw cX12_draw 2 (some .int) : Cond) ∈ UW := um (tb_8 _ (List.mem_of_getElem? (i := 64) (by decide +kernel))) (by decide +kernel)
theorem md_X12_draw : MD mX12_draw 1 := ⟨by decide +kernel, by decide +kernel, by decide +kernel, by decide, w_8_64, w_1_11⟩
def mX12_drawDeed : MI := (yX12_drawDeed, cX12_drawDeed, 2, none)
theorem w_8_60 : (.code yX12_drawDeed cX12_drawDeed 2 none : Cond) ∈ UW := um (tb_8 _ (List.mem_of_getElem? (i := 60) (by decide +kernel))) (by decide +kernel)
theorem md_X12_drawDeed : MD mX12_drawDeed 0 := ⟨by decide +kernel, by decide +kernel, by decide +kernel, by decide, w_8_60, w_1_11⟩
def mX12_drawn : MI := (yX12_drawn, cX12_drawn, 6, (some .int))
theorem w_8_56 : (.code yX12_drawn cX12_drawn 6 (some .int) : Cond) ∈ UW := um (tb_8 _ (List.mem_of_getElem? (i := 56) (by decide +kernel))) (by decide +kernel)
theorem md_X12_drawn : MD mX12_drawn 4 := ⟨by decide +kernel, by decide +kernel, by decide +kernel, by decide, w_8_56, w_1_11⟩
def mX12_duel : MI := (yX12_duel, cX12_duel, 7, (some .int))
theorem w_7_215 : (.code yX12_duel cX12_duel 7 (some .int) : Cond) ∈ UW := um (tb_7 _ (List.mem_of_getElem? (i := 215) (by decide +kernel))) (by decide +kernel)
theorem md_X12_duel : MD mX12_duel 3 := ⟨by decide +kernel, by decide +kernel, by decide +kernel, by decide, w_7_215, w_1_11⟩
def mX12_end : MI := (yX12_end, cX12_end, 2, (some .int))
theorem w_6_137 : (.code yX12_end cX12_end 2 (some .int) : Cond) ∈ UW := um (tb_6 _ (List.mem_of_getElem? (i := 137) (by decide +kernel))) (by decide +kernel)
theorem md_X12_end : MD mX12_end 1 := ⟨by decide +kernel, by decide +kernel, by decide +kernel, by decide, w_6_137, w_1_11⟩
def mX12_endOf : MI := (yX12_endOf, cX12_endOf, 7, (some .int))
theorem w_7_219 : (.code yX12_endOf cX12_endOf 7 (some .int) : Cond) ∈ UW := um (tb_7 _ (List.mem_of_getElem? (i := 219) (by decide +kernel))) (by decide +kernel)
theorem md_X12_endOf : MD mX12_endOf 2 := ⟨by decide +kernel, by decide +kernel, by decide +kernel, by decide, w_7_219, w_1_11⟩
def mX12_factOf : MI := (yX12_factOf, cX12_factOf, 3, (some .int))
theorem w_8_16 : (.code yX12_factOf cX12_factOf 3 (some .int) : Cond) ∈ UW := um (tb_8 _ (List.mem_of_getElem? (i := 16) (by decide +kernel))) (by decide +kernel)
theorem md_X12_factOf : MD mX12_factOf 2 := ⟨by decide +kernel, by decide +kernel, by decide +kernel, by decide, w_8_16, w_1_11⟩
def mX12_facts : MI := (yX12_facts, cX12_facts, 1, (some .int))
theorem w_8_12 : (.code yX12_facts cX12_facts 1 (some .int) : Cond) ∈ UW := um (tb_8 _ (List.mem_of_getElem? (i := 12) (by decide +kernel))) (by decide +kernel)
theorem md_X12_facts : MD mX12_facts 0 := ⟨by decide +kernel, by decide +kernel, by decide +kernel, by decide, w_8_12, w_1_11⟩
def mX12_fails : MI := (yX12_fails, cX12_fails, 1, (some .boolean))
theorem w_6_189 : (.code yX12_fails cX12_fails 1 (some .boolean) : Cond) ∈ UW := um (tb_6 _ (List.mem_of_getElem? (i := 189) (by decide +kernel))) (by decide +kernel)
theorem md_X12_fails : MD mX12_fails 0 := ⟨by decide +kernel, by decide +kernel, by decide +kernel, by decide, w_6_189, w_1_11⟩
def mX12_fallingOf : MI := (yX12_fallingOf, cX12_fallingOf, 7, (some .int))
theorem w_8_73 : (.code yX12_fallingOf cX12_fallingOf 7 (some .int) : Cond) ∈ UW := um (tb_8 _ (List.mem_of_getElem? (i := 73) (by decide +kernel))) (by decide +kernel)
theorem md_X12_fallingOf : MD mX12_fallingOf 1 := ⟨by decide +kernel, by decide +kernel, by decide +kernel, by decide, w_8_73, w_1_11⟩
def mX12_fault : MI := (yX12_fault, cX12_fault, 2, (some .int))
theorem w_6_222 : (.code yX12_fault cX12_fault 2 (some .int) : Cond) ∈ UW := um (tb_6 _ (List.mem_of_getElem? (i := 222) (by decide +kernel))) (by decide +kernel)
theorem md_X12_fault : MD mX12_fault 1 := ⟨by decide +kernel, by decide +kernel, by decide +kernel, by decide, w_6_222, w_1_11⟩
def mX12_feed : MI := (yX12_feed, cX12_feed, 6, (some .int))
theorem w_6_129 : (.code yX12_feed cX12_feed 6 (some .int) : Cond) ∈ UW := um (tb_6 _ (List.mem_of_getElem? (i := 129) (by decide +kernel))) (by decide +kernel)
theorem md_X12_feed : MD mX12_feed 5 := ⟨by decide +kernel, by decide +kernel, by decide +kernel, by decide, w_6_129, w_1_11⟩
def mX12_findRows : MI := (yX12_findRows, cX12_findRows, 5, none)
theorem w_8_24 : (.code yX12_findRows cX12_findRows 5 none : Cond) ∈ UW := um (tb_8 _ (List.mem_of_getElem? (i := 24) (by decide +kernel))) (by decide +kernel)
theorem md_X12_findRows : MD mX12_findRows 1 := ⟨by decide +kernel, by decide +kernel, by decide +kernel, by decide, w_8_24, w_1_11⟩
def mX12_fits : MI := (yX12_fits, cX12_fits, 4, (some .int))
theorem w_8_20 : (.code yX12_fits cX12_fits 4 (some .int) : Cond) ∈ UW := um (tb_8 _ (List.mem_of_getElem? (i := 20) (by decide +kernel))) (by decide +kernel)
theorem md_X12_fits : MD mX12_fits 3 := ⟨by decide +kernel, by decide +kernel, by decide +kernel, by decide, w_8_20, w_1_11⟩
def mX12_fives : MI := (yX12_fives, cX12_fives, 2, (some .int))
theorem w_8_28 : (.code yX12_fives cX12_fives 2 (some .int) : Cond) ∈ UW := um (tb_8 _ (List.mem_of_getElem? (i := 28) (by decide +kernel))) (by decide +kernel)
theorem md_X12_fives : MD mX12_fives 1 := ⟨by decide +kernel, by decide +kernel, by decide +kernel, by decide, w_8_28, w_1_11⟩
def mX12_fold : MI := (yX12_fold, cX12_fold, 6, (some .int))
theorem w_7_223 : (.code yX12_fold cX12_fold 6 (some .int) : Cond) ∈ UW := um (tb_7 _ (List.mem_of_getElem? (i := 223) (by decide +kernel))) (by decide +kernel)
theorem md_X12_fold : MD mX12_fold 2 := ⟨by decide +kernel, by decide +kernel, by decide +kernel, by decide, w_7_223, w_1_11⟩
def mX12_four : MI := (yX12_four, cX12_four, 3, none)
theorem w_6_133 : (.code yX12_four cX12_four 3 none : Cond) ∈ UW := um (tb_6 _ (List.mem_of_getElem? (i := 133) (by decide +kernel))) (by decide +kernel)
theorem md_X12_four : MD mX12_four 1 := ⟨by decide +kernel, by decide +kernel, by decide +kernel, by decide, w_6_133, w_1_11⟩
def mX12_full : MI := (yX12_full, cX12_full, 4, none)
theorem w_6_177 : (.code yX12_full cX12_full 4 none : Cond) ∈ UW := um (tb_6 _ (List.mem_of_getElem? (i := 177) (by decide +kernel))) (by decide +kernel)
theorem md_X12_full : MD mX12_full 3 := ⟨by decide +kernel, by decide +kernel, by decide +kernel, by decide, w_6_177, w_1_11⟩
def mX12_greater : MI := (yX12_greater, cX12_greater, 2, (some .int))
theorem w_7_61 : (.code yX12_greater cX12_greater 2 (some .int) : Cond) ∈ UW := um (tb_7 _ (List.mem_of_getElem? (i := 61) (by decide +kernel))) (by decide +kernel)
theorem md_X12_greater : MD mX12_greater 2 := ⟨by decide +kernel, by decide +kernel, by decide +kernel, by decide, w_7_61, w_1_11⟩
def mX12_hand : MI := (yX12_hand, cX12_hand, 2, (some .boolean))
theorem w_6_230 : (.code yX12_hand cX12_hand 2 (some .boolean) : Cond) ∈ UW := um (tb_6 _ (List.mem_of_getElem? (i := 230) (by decide +kernel))) (by decide +kernel)
theorem md_X12_hand : MD mX12_hand 1 := ⟨by decide +kernel, by decide +kernel, by decide +kernel, by decide, w_6_230, w_1_11⟩
def mX12_has : MI := (yX12_has, cX12_has, 2, (some .boolean))
theorem w_7_104 : (.code yX12_has cX12_has 2 (some .boolean) : Cond) ∈ UW := um (tb_7 _ (List.mem_of_getElem? (i := 104) (by decide +kernel))) (by decide +kernel)
theorem md_X12_has : MD mX12_has 2 := ⟨by decide +kernel, by decide +kernel, by decide +kernel, by decide, w_7_104, w_1_11⟩
def mX12_hasLog : MI := (yX12_hasLog, cX12_hasLog, 2, (some .boolean))
theorem w_8_4 : (.code yX12_hasLog cX12_hasLog 2 (some .boolean) : Cond) ∈ UW := um (tb_8 _ (List.mem_of_getElem? (i := 4) (by decide +kernel))) (by decide +kernel)
theorem md_X12_hasLog : MD mX12_hasLog 1 := ⟨by decide +kernel, by decide +kernel, by decide +kernel, by decide, w_8_4, w_1_11⟩
def mX12_hasShow : MI := (yX12_hasShow, cX12_hasShow, 2, (some .boolean))
theorem w_7_10 : (.code yX12_hasShow cX12_hasShow 2 (some .boolean) : Cond) ∈ UW := um (tb_7 _ (List.mem_of_getElem? (i := 10) (by decide +kernel))) (by decide +kernel)
theorem md_X12_hasShow : MD mX12_hasShow 1 := ⟨by decide +kernel, by decide +kernel, by decide +kernel, by decide, w_7_10, w_1_11⟩
def mX12_image : MI := (yX12_image, cX12_image, 2, (some .boolean))
theorem w_8_129 : (.code yX12_image cX12_image 2 (some .boolean) : Cond) ∈ UW := um (tb_8 _ (List.mem_of_getElem? (i := 129) (by decide +kernel))) (by decide +kernel)
theorem md_X12_image : MD mX12_image 1 := ⟨by decide +kernel, by decide +kernel, by decide +kernel, by decide, w_8_129, w_1_11⟩
def mX12_in : MI := (yX12_in, cX12_in, 3, (some .boolean))
theorem w_6_140 : (.code yX12_in cX12_in 3 (some .boolean) : Cond) ∈ UW := um (tb_6 _ (List.mem_of_getElem? (i := 140) (by decide +kernel))) (by decide +kernel)
theorem md_X12_in : MD mX12_in 3 := ⟨by decide +kernel, by decide +kernel, by decide +kernel, by decide, w_6_140, w_1_11⟩
def mX12_inRow : MI := (yX12_inRow, cX12_inRow, 2, (some .int))
theorem w_8_101 : (.code yX12_inRow cX12_inRow 2 (some .int) : Cond) ∈ UW := um (tb_8 _ (List.mem_of_getElem? (i := 101) (by decide +kernel))) (by decide +kernel)
theorem md_X12_inRow : MD mX12_inRow 0 := ⟨by decide +kernel, by decide +kernel, by decide +kernel, by decide, w_8_101, w_1_11⟩
def mX12_init : MI := (yX12_init, cX12_init, 1, none)
theorem w_5_176 : (.code yX12_init cX12_init 1 none : Cond) ∈ UW := um (tb_5 _ (List.mem_of_getElem? (i := 176) (by decide +kernel))) (by decide +kernel)
theorem md_X12_init : MD mX12_init 0 := ⟨by decide +kernel, by decide +kernel, by decide +kernel, by decide, w_5_176, w_1_11⟩
def mX12_is : MI := (yX12_is, cX12_is, 3, (some .boolean))
theorem w_6_148 : (.code yX12_is cX12_is 3 (some .boolean) : Cond) ∈ UW := um (tb_6 _ (List.mem_of_getElem? (i := 148) (by decide +kernel))) (by decide +kernel)
