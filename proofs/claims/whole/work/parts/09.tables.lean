theorem tb1 {w : Cond} (j : Nat) (h : tables_1_1[j]? = some w) (hg : goodWord w = true) : w ∈ lwg := lwg_in (List.mem_append_right _ (show w ∈ tables_1 from List.mem_append_left _ (List.mem_of_getElem? h))) hg
theorem tb2 {w : Cond} (j : Nat) (h : tables_1_2[j]? = some w) (hg : goodWord w = true) : w ∈ lwg := lwg_in (List.mem_append_right _ (show w ∈ tables_1 from List.mem_append_right _ (List.mem_append_left _ (List.mem_of_getElem? h)))) hg
theorem tb3 {w : Cond} (j : Nat) (h : tables_1_3[j]? = some w) (hg : goodWord w = true) : w ∈ lwg := lwg_in (List.mem_append_right _ (show w ∈ tables_1 from List.mem_append_right _ (List.mem_append_right _ (List.mem_append_left _ (List.mem_of_getElem? h))))) hg
theorem tb4 {w : Cond} (j : Nat) (h : tables_1_4[j]? = some w) (hg : goodWord w = true) : w ∈ lwg := lwg_in (List.mem_append_right _ (show w ∈ tables_1 from List.mem_append_right _ (List.mem_append_right _ (List.mem_append_right _ (List.mem_append_left _ (List.mem_of_getElem? h)))))) hg
theorem tb5 {w : Cond} (j : Nat) (h : tables_1_5[j]? = some w) (hg : goodWord w = true) : w ∈ lwg := lwg_in (List.mem_append_right _ (show w ∈ tables_1 from List.mem_append_right _ (List.mem_append_right _ (List.mem_append_right _ (List.mem_append_right _ (List.mem_append_left _ (List.mem_of_getElem? h))))))) hg
theorem tb6 {w : Cond} (j : Nat) (h : tables_1_6[j]? = some w) (hg : goodWord w = true) : w ∈ lwg := lwg_in (List.mem_append_right _ (show w ∈ tables_1 from List.mem_append_right _ (List.mem_append_right _ (List.mem_append_right _ (List.mem_append_right _ (List.mem_append_right _ (List.mem_append_left _ (List.mem_of_getElem? h)))))))) hg
theorem tb7 {w : Cond} (j : Nat) (h : tables_1_7[j]? = some w) (hg : goodWord w = true) : w ∈ lwg := lwg_in (List.mem_append_right _ (show w ∈ tables_1 from List.mem_append_right _ (List.mem_append_right _ (List.mem_append_right _ (List.mem_append_right _ (List.mem_append_right _ (List.mem_append_right _ (List.mem_append_left _ (List.mem_of_getElem? h))))))))) hg
theorem tb8 {w : Cond} (j : Nat) (h : tables_1_8[j]? = some w) (hg : goodWord w = true) : w ∈ lwg := lwg_in (List.mem_append_right _ (show w ∈ tables_1 from List.mem_append_right _ (List.mem_append_right _ (List.mem_append_right _ (List.mem_append_right _ (List.mem_append_right _ (List.mem_append_right _ (List.mem_append_right _ (List.mem_append_left _ (List.mem_of_getElem? h)))))))))) hg
theorem tb9 {w : Cond} (j : Nat) (h : tables_1_9[j]? = some w) (hg : goodWord w = true) : w ∈ lwg := lwg_in (List.mem_append_right _ (show w ∈ tables_1 from List.mem_append_right _ (List.mem_append_right _ (List.mem_append_right _ (List.mem_append_right _ (List.mem_append_right _ (List.mem_append_right _ (List.mem_append_right _ (List.mem_append_right _ ((List.mem_of_getElem? h))))))))))) hg
theorem lay_in {ws : List Cond} (ps : List Nat) (hp : ws = ps.filterMap (fun i => tables_1[i]?)) (hg : ws.all goodWord = true) : ∀ w ∈ ws, w ∈ lwg := by
  intro w hw
  have h1 := List.all_eq_true.mp hg w hw
  rw [hp] at hw
  obtain ⟨i, -, hi⟩ := List.mem_filterMap.mp hw
  exact tb_in i hi h1
theorem cls_0 : CLs 0 RX0 TX0 5 tyX0 := ⟨rfl, lay_in [54, 56, 58, 60, 62] (by decide +kernel) (by decide +kernel), tyX0_ok, nmX0, tb1 44 rfl rfl, tb1 4 rfl rfl, by decide +kernel⟩
theorem cls_1 : CLs 1 RX1 TX1 3 tyX1 := ⟨rfl, lay_in [429, 431, 433] (by decide +kernel) (by decide +kernel), tyX1_ok, nmX1, tb2 180 rfl rfl, tb1 13 rfl rfl, by decide +kernel⟩
theorem cls_2 : CLs 2 RX2 TX2 10 tyX2 := ⟨rfl, lay_in [490, 492, 494, 496, 498, 500, 502, 504, 506, 508] (by decide +kernel) (by decide +kernel), tyX2_ok, nmX2, tb2 198 rfl rfl, tb1 14 rfl rfl, by decide +kernel⟩
theorem cls_3 : CLs 3 RX3 TX3 12 tyX3 := ⟨rfl, lay_in [224, 226, 228, 230, 232, 234, 236, 238, 240, 242, 244, 246] (by decide +kernel) (by decide +kernel), tyX3_ok, nmX3, tb1 32 rfl rfl, tb1 2 rfl rfl, by decide +kernel⟩
theorem cls_4 : CLs 4 RX4 TX4 7 tyX4 := ⟨rfl, lay_in [460, 462, 464, 466, 468, 470, 472] (by decide +kernel) (by decide +kernel), tyX4_ok, nmX4, tb2 205 rfl rfl, tb1 15 rfl rfl, by decide +kernel⟩
theorem cls_5 : CLs 5 RX5 TX5 6 tyX5 := ⟨rfl, lay_in [282, 284, 286, 288, 290, 292] (by decide +kernel) (by decide +kernel), tyX5_ok, nmX5, tb2 19 rfl rfl, tb1 10 rfl rfl, by decide +kernel⟩
theorem cls_6 : CLs 6 RX6 TX6 15 tyX6 := ⟨rfl, lay_in [126, 128, 130, 132, 134, 136, 138, 140, 142, 144, 146, 148, 150, 152, 154] (by decide +kernel) (by decide +kernel), tyX6_ok, nmX6, tb1 38 rfl rfl, tb1 3 rfl rfl, by decide +kernel⟩
theorem cls_7 : CLs 7 RX7 TX7 7 tyX7 := ⟨rfl, lay_in [315, 317, 319, 321, 323, 325, 327] (by decide +kernel) (by decide +kernel), tyX7_ok, nmX7, tb2 10 rfl rfl, tb1 9 rfl rfl, by decide +kernel⟩
theorem cls_8 : CLs 8 RX8 TX8 9 tyX8 := ⟨rfl, lay_in [400, 402, 404, 406, 408, 410, 412, 414, 416] (by decide +kernel) (by decide +kernel), tyX8_ok, nmX8, tb2 91 rfl rfl, tb1 11 rfl rfl, by decide +kernel⟩
theorem cls_9 : CLs 9 RX9 TX9 5 tyX9 := ⟨rfl, lay_in [525, 527, 529, 531, 533] (by decide +kernel) (by decide +kernel), tyX9_ok, nmX9, tb3 32 rfl rfl, tb1 16 rfl rfl, by decide +kernel⟩
theorem cls_10 : CLs 10 RX10 TX10 5 tyX10 := ⟨rfl, lay_in [362, 364, 366, 368, 370] (by decide +kernel) (by decide +kernel), tyX10_ok, nmX10, tb2 98 rfl rfl, tb1 12 rfl rfl, by decide +kernel⟩
theorem cls_11 : CLs 11 RX11 TX11 14 tyX11 := ⟨rfl, lay_in [667, 669, 671, 673, 675, 677, 679, 681, 683, 685, 687, 689, 691, 693] (by decide +kernel) (by decide +kernel), tyX11_ok, nmX11, tb1 24 rfl rfl, tb1 1 rfl rfl, by decide +kernel⟩
theorem cls_12 : CLs 12 RX12 TX12 86 tyX12 := ⟨rfl, lay_in [1417, 1419, 1421, 1423, 1425, 1427, 1429, 1431, 1433, 1435, 1437, 1439, 1441, 1443, 1445, 1447, 1449, 1451, 1453, 1455, 1457, 1459, 1461, 1463, 1465, 1467, 1469, 1471, 1473, 1475, 1477, 1479, 1481, 1483, 1485, 1487, 1489, 1491, 1493, 1495, 1497, 1499, 1501, 1503, 1505, 1507, 1509, 1511, 1513, 1515, 1517, 1519, 1521, 1523, 1525, 1527, 1529, 1531, 1533, 1535, 1537, 1539, 1541, 1543, 1545, 1547, 1549, 1551, 1553, 1555, 1557, 1559, 1561, 1563, 1565, 1567, 1569, 1571, 1573, 1575, 1577, 1579, 1581, 1583, 1585, 1587] (by decide +kernel) (by decide +kernel), tyX12_ok, nmX12, tb6 81 rfl rfl, tb1 19 rfl rfl, by decide +kernel⟩
theorem nas_0 : NAs 0 .int := ⟨by decide, rfl, by decide, Or.inl ⟨rfl, rfl⟩, fun _ _ h => h, tb1 67 rfl rfl⟩
theorem nas_1 : NAs 1 .byte := ⟨by decide, rfl, by decide, Or.inl ⟨rfl, rfl⟩, fun _ _ h => h, tb1 65 rfl rfl⟩
theorem nas_2 : NAs 2 .boolean := ⟨by decide, rfl, by decide, Or.inl ⟨rfl, rfl⟩, fun _ _ h => h, tb2 133 rfl rfl⟩
theorem nas_3 : NAs 3 .long := ⟨by decide, rfl, by decide, Or.inr ⟨rfl, rfl⟩, fun _ _ h => h, tb1 66 rfl rfl⟩
theorem oi_i : Cond.instanceMethod Lib.objectInit ∈ lwg := tb1 29 rfl rfl
theorem oi_c : Cond.code Lib.objectInit ⟨#[0xb1]⟩ 1 none ∈ lwg := tb1 30 rfl rfl
theorem mt_smax : Cond.static Lib.Math.max.name ∈ lwg := tb3 106 rfl rfl
theorem mt_cmax : Cond.code Lib.Math.max.name Lib.Math.max.code 2 (some .int) ∈ lwg := tb3 107 rfl rfl
theorem mt_smin : Cond.static Lib.Math.min.name ∈ lwg := tb3 103 rfl rfl
theorem mt_cmin : Cond.code Lib.Math.min.name Lib.Math.min.code 2 (some .int) ∈ lwg := tb3 104 rfl rfl
theorem mt_sabs : Cond.static Lib.Math.abs.name ∈ lwg := tb3 136 rfl rfl
theorem mt_cabs : Cond.code Lib.Math.abs.name Lib.Math.abs.code 1 (some .int) ∈ lwg := tb3 137 rfl rfl
theorem mt_i : Cond.initialized "java/lang/Math" ∈ lwg := tb1 17 rfl rfl
theorem fl_11_9 : Cond.fieldLink RX11 9 (TX11 0).1 (TX11 0).2.1 (TX11 0).2.2.1 ∈ lwg := tb3 173 rfl rfl
theorem fl_11_13 : Cond.fieldLink RX11 13 (TX11 2).1 (TX11 2).2.1 (TX11 2).2.2.1 ∈ lwg := tb3 175 rfl rfl
theorem fl_11_20 : Cond.fieldLink RX11 20 (TX11 3).1 (TX11 3).2.1 (TX11 3).2.2.1 ∈ lwg := tb3 176 rfl rfl
theorem fl_11_27 : Cond.fieldLink RX11 27 (TX11 4).1 (TX11 4).2.1 (TX11 4).2.2.1 ∈ lwg := tb3 177 rfl rfl
theorem fl_11_34 : Cond.fieldLink RX11 34 (TX11 5).1 (TX11 5).2.1 (TX11 5).2.2.1 ∈ lwg := tb3 178 rfl rfl
theorem fl_11_41 : Cond.fieldLink RX11 41 (TX11 6).1 (TX11 6).2.1 (TX11 6).2.2.1 ∈ lwg := tb3 179 rfl rfl
theorem fl_11_45 : Cond.fieldLink RX11 45 (TX11 7).1 (TX11 7).2.1 (TX11 7).2.2.1 ∈ lwg := tb3 180 rfl rfl
theorem fl_11_49 : Cond.fieldLink RX11 49 (TX11 8).1 (TX11 8).2.1 (TX11 8).2.2.1 ∈ lwg := tb3 181 rfl rfl
theorem fl_11_56 : Cond.fieldLink RX11 56 (TX11 9).1 (TX11 9).2.1 (TX11 9).2.2.1 ∈ lwg := tb3 182 rfl rfl
theorem fl_11_63 : Cond.fieldLink RX11 63 (TX11 10).1 (TX11 10).2.1 (TX11 10).2.2.1 ∈ lwg := tb3 183 rfl rfl
theorem fl_11_67 : Cond.fieldLink RX11 67 (TX11 11).1 (TX11 11).2.1 (TX11 11).2.2.1 ∈ lwg := tb3 184 rfl rfl
theorem fl_11_71 : Cond.fieldLink RX11 71 (TX11 12).1 (TX11 12).2.1 (TX11 12).2.2.1 ∈ lwg := tb3 185 rfl rfl
theorem fl_11_74 : Cond.fieldLink RX11 74 (TX11 13).1 (TX11 13).2.1 (TX11 13).2.2.1 ∈ lwg := tb3 186 rfl rfl
theorem fl_11_77 : Cond.fieldLink RX11 77 (TX7 0).1 (TX7 0).2.1 (TX7 0).2.2.1 ∈ lwg := tb2 56 rfl rfl
theorem fl_11_89 : Cond.fieldLink RX11 89 (TX11 1).1 (TX11 1).2.1 (TX11 1).2.2.1 ∈ lwg := tb3 174 rfl rfl
theorem fl_11_100 : Cond.fieldLink RX11 100 (TX3 9).1 (TX3 9).2.1 (TX3 9).2.2.1 ∈ lwg := tb1 221 rfl rfl
theorem fl_11_101 : Cond.fieldLink RX11 101 (TX3 5).1 (TX3 5).2.1 (TX3 5).2.2.1 ∈ lwg := tb1 216 rfl rfl
theorem fl_11_106 : Cond.fieldLink RX11 106 (TX7 3).1 (TX7 3).2.1 (TX7 3).2.2.1 ∈ lwg := tb2 67 rfl rfl
theorem fl_11_110 : Cond.fieldLink RX11 110 (TX5 2).1 (TX5 2).2.1 (TX5 2).2.2.1 ∈ lwg := tb2 34 rfl rfl
theorem fl_11_115 : Cond.fieldLink RX11 115 (TX8 1).1 (TX8 1).2.1 (TX8 1).2.2.1 ∈ lwg := tb2 141 rfl rfl
theorem fl_11_118 : Cond.fieldLink RX11 118 (TX8 4).1 (TX8 4).2.1 (TX8 4).2.2.1 ∈ lwg := tb2 149 rfl rfl
theorem fl_11_121 : Cond.fieldLink RX11 121 (TX6 2).1 (TX6 2).2.1 (TX6 2).2.2.1 ∈ lwg := tb1 79 rfl rfl
theorem fl_11_124 : Cond.fieldLink RX11 124 (TX6 3).1 (TX6 3).2.1 (TX6 3).2.2.1 ∈ lwg := tb1 83 rfl rfl
theorem fl_11_127 : Cond.fieldLink RX11 127 (TX8 3).1 (TX8 3).2.1 (TX8 3).2.2.1 ∈ lwg := tb2 146 rfl rfl
theorem fl_11_133 : Cond.fieldLink RX11 133 (TX8 0).1 (TX8 0).2.1 (TX8 0).2.2.1 ∈ lwg := tb2 138 rfl rfl
theorem fl_11_137 : Cond.fieldLink RX11 137 (TX10 0).1 (TX10 0).2.1 (TX10 0).2.2.1 ∈ lwg := tb2 105 rfl rfl
theorem fl_11_142 : Cond.fieldLink RX11 142 (TX10 1).1 (TX10 1).2.1 (TX10 1).2.2.1 ∈ lwg := tb2 108 rfl rfl
theorem fl_11_145 : Cond.fieldLink RX11 145 (TX10 3).1 (TX10 3).2.1 (TX10 3).2.2.1 ∈ lwg := tb2 116 rfl rfl
theorem fl_11_148 : Cond.fieldLink RX11 148 (TX10 2).1 (TX10 2).2.1 (TX10 2).2.2.1 ∈ lwg := tb2 111 rfl rfl
theorem fl_11_151 : Cond.fieldLink RX11 151 (TX10 4).1 (TX10 4).2.1 (TX10 4).2.2.1 ∈ lwg := tb2 121 rfl rfl
theorem fl_11_157 : Cond.fieldLink RX11 157 (TX7 1).1 (TX7 1).2.1 (TX7 1).2.2.1 ∈ lwg := tb2 61 rfl rfl
theorem fl_11_160 : Cond.fieldLink RX11 160 (TX7 2).1 (TX7 2).2.1 (TX7 2).2.2.1 ∈ lwg := tb2 63 rfl rfl
theorem fl_11_216 : Cond.fieldLink RX11 216 (TX2 4).1 (TX2 4).2.1 (TX2 4).2.2.1 ∈ lwg := tb3 4 rfl rfl
theorem fl_11_223 : Cond.fieldLink RX11 223 (TX7 4).1 (TX7 4).2.1 (TX7 4).2.2.1 ∈ lwg := tb2 70 rfl rfl
theorem fl_11_233 : Cond.fieldLink RX11 233 (TX6 4).1 (TX6 4).2.1 (TX6 4).2.2.1 ∈ lwg := tb1 91 rfl rfl
theorem fl_11_265 : Cond.fieldLink RX11 265 (TX7 6).1 (TX7 6).2.1 (TX7 6).2.2.1 ∈ lwg := tb2 74 rfl rfl
theorem fl_11_268 : Cond.fieldLink RX11 268 (TX7 5).1 (TX7 5).2.1 (TX7 5).2.2.1 ∈ lwg := tb2 72 rfl rfl
theorem fl_11_275 : Cond.fieldLink RX11 275 (TX9 4).1 (TX9 4).2.1 (TX9 4).2.2.1 ∈ lwg := tb3 44 rfl rfl
theorem fl_11_278 : Cond.fieldLink RX11 278 (TX8 8).1 (TX8 8).2.1 (TX8 8).2.2.1 ∈ lwg := tb2 159 rfl rfl
theorem fl_11_291 : Cond.fieldLink RX11 291 (TX1 2).1 (TX1 2).2.1 (TX1 2).2.2.1 ∈ lwg := tb2 188 rfl rfl
theorem fl_11_292 : Cond.fieldLink RX11 292 (TX6 8).1 (TX6 8).2.1 (TX6 8).2.2.1 ∈ lwg := tb1 105 rfl rfl
theorem fl_11_295 : Cond.fieldLink RX11 295 (TX6 9).1 (TX6 9).2.1 (TX6 9).2.2.1 ∈ lwg := tb1 109 rfl rfl
theorem fl_11_298 : Cond.fieldLink RX11 298 (TX6 10).1 (TX6 10).2.1 (TX6 10).2.2.1 ∈ lwg := tb1 113 rfl rfl
theorem fl_11_329 : Cond.fieldLink RX11 329 (TX6 13).1 (TX6 13).2.1 (TX6 13).2.2.1 ∈ lwg := tb1 122 rfl rfl
theorem fl_11_353 : Cond.fieldLink RX11 353 (TX4 6).1 (TX4 6).2.1 (TX4 6).2.2.1 ∈ lwg := tb2 219 rfl rfl
theorem fl_0_9 : Cond.fieldLink RX0 9 (TX0 0).1 (TX0 0).2.1 (TX0 0).2.2.1 ∈ lwg := tb1 49 rfl rfl
theorem fl_0_13 : Cond.fieldLink RX0 13 (TX0 1).1 (TX0 1).2.1 (TX0 1).2.2.1 ∈ lwg := tb1 50 rfl rfl
theorem fl_0_16 : Cond.fieldLink RX0 16 (TX0 2).1 (TX0 2).2.1 (TX0 2).2.2.1 ∈ lwg := tb1 51 rfl rfl
theorem fl_0_19 : Cond.fieldLink RX0 19 (TX0 3).1 (TX0 3).2.1 (TX0 3).2.2.1 ∈ lwg := tb1 52 rfl rfl
theorem fl_0_22 : Cond.fieldLink RX0 22 (TX0 4).1 (TX0 4).2.1 (TX0 4).2.2.1 ∈ lwg := tb1 53 rfl rfl
theorem fl_1_11 : Cond.fieldLink RX1 11 (TX1 0).1 (TX1 0).2.1 (TX1 0).2.2.1 ∈ lwg := tb2 185 rfl rfl
theorem fl_1_15 : Cond.fieldLink RX1 15 (TX1 1).1 (TX1 1).2.1 (TX1 1).2.2.1 ∈ lwg := tb2 186 rfl rfl
theorem fl_1_19 : Cond.fieldLink RX1 19 (TX8 0).1 (TX8 0).2.1 (TX8 0).2.2.1 ∈ lwg := tb2 135 rfl rfl
theorem fl_1_25 : Cond.fieldLink RX1 25 (TX10 0).1 (TX10 0).2.1 (TX10 0).2.2.1 ∈ lwg := tb2 104 rfl rfl
theorem fl_1_30 : Cond.fieldLink RX1 30 (TX10 1).1 (TX10 1).2.1 (TX10 1).2.2.1 ∈ lwg := tb2 107 rfl rfl
theorem fl_1_33 : Cond.fieldLink RX1 33 (TX10 3).1 (TX10 3).2.1 (TX10 3).2.2.1 ∈ lwg := tb2 114 rfl rfl
theorem fl_1_36 : Cond.fieldLink RX1 36 (TX10 4).1 (TX10 4).2.1 (TX10 4).2.2.1 ∈ lwg := tb2 119 rfl rfl
theorem fl_1_39 : Cond.fieldLink RX1 39 (TX8 1).1 (TX8 1).2.1 (TX8 1).2.2.1 ∈ lwg := tb2 140 rfl rfl
theorem fl_1_42 : Cond.fieldLink RX1 42 (TX8 2).1 (TX8 2).2.1 (TX8 2).2.2.1 ∈ lwg := tb2 143 rfl rfl
theorem fl_1_45 : Cond.fieldLink RX1 45 (TX8 3).1 (TX8 3).2.1 (TX8 3).2.2.1 ∈ lwg := tb2 145 rfl rfl
theorem fl_1_48 : Cond.fieldLink RX1 48 (TX8 4).1 (TX8 4).2.1 (TX8 4).2.2.1 ∈ lwg := tb2 148 rfl rfl
theorem fl_1_52 : Cond.fieldLink RX1 52 (TX1 2).1 (TX1 2).2.1 (TX1 2).2.2.1 ∈ lwg := tb2 187 rfl rfl
theorem fl_1_61 : Cond.fieldLink RX1 61 (TX8 8).1 (TX8 8).2.1 (TX8 8).2.2.1 ∈ lwg := tb2 158 rfl rfl
theorem fl_2_11 : Cond.fieldLink RX2 11 (TX2 0).1 (TX2 0).2.1 (TX2 0).2.2.1 ∈ lwg := tb2 239 rfl rfl
theorem fl_2_17 : Cond.fieldLink RX2 17 (TX2 1).1 (TX2 1).2.1 (TX2 1).2.2.1 ∈ lwg := tb3 0 rfl rfl
theorem fl_2_22 : Cond.fieldLink RX2 22 (TX2 2).1 (TX2 2).2.1 (TX2 2).2.2.1 ∈ lwg := tb3 1 rfl rfl
theorem fl_2_29 : Cond.fieldLink RX2 29 (TX2 3).1 (TX2 3).2.1 (TX2 3).2.2.1 ∈ lwg := tb3 2 rfl rfl
theorem fl_2_33 : Cond.fieldLink RX2 33 (TX2 4).1 (TX2 4).2.1 (TX2 4).2.2.1 ∈ lwg := tb3 3 rfl rfl
theorem fl_2_37 : Cond.fieldLink RX2 37 (TX2 5).1 (TX2 5).2.1 (TX2 5).2.2.1 ∈ lwg := tb3 5 rfl rfl
theorem fl_2_40 : Cond.fieldLink RX2 40 (TX2 7).1 (TX2 7).2.1 (TX2 7).2.2.1 ∈ lwg := tb3 7 rfl rfl
theorem fl_2_45 : Cond.fieldLink RX2 45 (TX2 8).1 (TX2 8).2.1 (TX2 8).2.2.1 ∈ lwg := tb3 8 rfl rfl
theorem fl_2_49 : Cond.fieldLink RX2 49 (TX2 9).1 (TX2 9).2.1 (TX2 9).2.2.1 ∈ lwg := tb3 9 rfl rfl
theorem fl_2_53 : Cond.fieldLink RX2 53 (TX2 6).1 (TX2 6).2.1 (TX2 6).2.2.1 ∈ lwg := tb3 6 rfl rfl
theorem fl_2_57 : Cond.fieldLink RX2 57 (TX7 3).1 (TX7 3).2.1 (TX7 3).2.2.1 ∈ lwg := tb2 65 rfl rfl
theorem fl_2_62 : Cond.fieldLink RX2 62 (TX7 0).1 (TX7 0).2.1 (TX7 0).2.2.1 ∈ lwg := tb2 58 rfl rfl
theorem fl_2_66 : Cond.fieldLink RX2 66 (TX6 4).1 (TX6 4).2.1 (TX6 4).2.2.1 ∈ lwg := tb1 88 rfl rfl
theorem fl_2_78 : Cond.fieldLink RX2 78 (TX8 0).1 (TX8 0).2.1 (TX8 0).2.2.1 ∈ lwg := tb2 136 rfl rfl
theorem fl_2_93 : Cond.fieldLink RX2 93 (TX7 4).1 (TX7 4).2.1 (TX7 4).2.2.1 ∈ lwg := tb2 69 rfl rfl
theorem fl_2_104 : Cond.fieldLink RX2 104 (TX4 5).1 (TX4 5).2.1 (TX4 5).2.2.1 ∈ lwg := tb2 217 rfl rfl
theorem fl_2_121 : Cond.fieldLink RX2 121 (TX6 8).1 (TX6 8).2.1 (TX6 8).2.2.1 ∈ lwg := tb1 103 rfl rfl
theorem fl_2_140 : Cond.fieldLink RX2 140 (TX10 3).1 (TX10 3).2.1 (TX10 3).2.2.1 ∈ lwg := tb2 117 rfl rfl
theorem fl_2_147 : Cond.fieldLink RX2 147 (TX6 11).1 (TX6 11).2.1 (TX6 11).2.2.1 ∈ lwg := tb1 116 rfl rfl
theorem fl_2_150 : Cond.fieldLink RX2 150 (TX6 0).1 (TX6 0).2.1 (TX6 0).2.2.1 ∈ lwg := tb1 71 rfl rfl
theorem fl_2_153 : Cond.fieldLink RX2 153 (TX5 0).1 (TX5 0).2.1 (TX5 0).2.2.1 ∈ lwg := tb2 27 rfl rfl
theorem fl_2_156 : Cond.fieldLink RX2 156 (TX6 12).1 (TX6 12).2.1 (TX6 12).2.2.1 ∈ lwg := tb1 119 rfl rfl
theorem fl_2_159 : Cond.fieldLink RX2 159 (TX6 1).1 (TX6 1).2.1 (TX6 1).2.2.1 ∈ lwg := tb1 75 rfl rfl
theorem fl_2_162 : Cond.fieldLink RX2 162 (TX5 1).1 (TX5 1).2.1 (TX5 1).2.2.1 ∈ lwg := tb2 31 rfl rfl
theorem fl_2_165 : Cond.fieldLink RX2 165 (TX6 3).1 (TX6 3).2.1 (TX6 3).2.2.1 ∈ lwg := tb1 85 rfl rfl
theorem fl_2_172 : Cond.fieldLink RX2 172 (TX5 3).1 (TX5 3).2.1 (TX5 3).2.2.1 ∈ lwg := tb2 39 rfl rfl
theorem fl_3_11 : Cond.fieldLink RX3 11 (TX3 0).1 (TX3 0).2.1 (TX3 0).2.2.1 ∈ lwg := tb1 210 rfl rfl
theorem fl_3_15 : Cond.fieldLink RX3 15 (TX3 1).1 (TX3 1).2.1 (TX3 1).2.2.1 ∈ lwg := tb1 211 rfl rfl
theorem fl_3_19 : Cond.fieldLink RX3 19 (TX3 2).1 (TX3 2).2.1 (TX3 2).2.2.1 ∈ lwg := tb1 212 rfl rfl
theorem fl_3_22 : Cond.fieldLink RX3 22 (TX3 3).1 (TX3 3).2.1 (TX3 3).2.2.1 ∈ lwg := tb1 213 rfl rfl
theorem fl_3_25 : Cond.fieldLink RX3 25 (TX3 4).1 (TX3 4).2.1 (TX3 4).2.2.1 ∈ lwg := tb1 214 rfl rfl
theorem fl_3_31 : Cond.fieldLink RX3 31 (TX3 5).1 (TX3 5).2.1 (TX3 5).2.2.1 ∈ lwg := tb1 215 rfl rfl
theorem fl_3_58 : Cond.fieldLink RX3 58 (TX3 6).1 (TX3 6).2.1 (TX3 6).2.2.1 ∈ lwg := tb1 217 rfl rfl
theorem fl_3_62 : Cond.fieldLink RX3 62 (TX3 7).1 (TX3 7).2.1 (TX3 7).2.2.1 ∈ lwg := tb1 218 rfl rfl
theorem fl_3_65 : Cond.fieldLink RX3 65 (TX3 8).1 (TX3 8).2.1 (TX3 8).2.2.1 ∈ lwg := tb1 219 rfl rfl
theorem fl_3_68 : Cond.fieldLink RX3 68 (TX3 10).1 (TX3 10).2.1 (TX3 10).2.2.1 ∈ lwg := tb1 222 rfl rfl
theorem fl_3_74 : Cond.fieldLink RX3 74 (TX3 11).1 (TX3 11).2.1 (TX3 11).2.2.1 ∈ lwg := tb1 223 rfl rfl
theorem fl_3_77 : Cond.fieldLink RX3 77 (TX3 9).1 (TX3 9).2.1 (TX3 9).2.2.1 ∈ lwg := tb1 220 rfl rfl
theorem fl_3_131 : Cond.fieldLink RX3 131 (TX6 9).1 (TX6 9).2.1 (TX6 9).2.2.1 ∈ lwg := tb1 108 rfl rfl
theorem fl_3_134 : Cond.fieldLink RX3 134 (TX6 10).1 (TX6 10).2.1 (TX6 10).2.2.1 ∈ lwg := tb1 112 rfl rfl
theorem fl_3_137 : Cond.fieldLink RX3 137 (TX6 11).1 (TX6 11).2.1 (TX6 11).2.2.1 ∈ lwg := tb1 115 rfl rfl
theorem fl_3_140 : Cond.fieldLink RX3 140 (TX6 12).1 (TX6 12).2.1 (TX6 12).2.2.1 ∈ lwg := tb1 118 rfl rfl
theorem fl_3_143 : Cond.fieldLink RX3 143 (TX6 13).1 (TX6 13).2.1 (TX6 13).2.2.1 ∈ lwg := tb1 121 rfl rfl
theorem fl_3_149 : Cond.fieldLink RX3 149 (TX6 4).1 (TX6 4).2.1 (TX6 4).2.2.1 ∈ lwg := tb1 90 rfl rfl
theorem fl_3_155 : Cond.fieldLink RX3 155 (TX6 0).1 (TX6 0).2.1 (TX6 0).2.2.1 ∈ lwg := tb1 70 rfl rfl
theorem fl_3_158 : Cond.fieldLink RX3 158 (TX6 1).1 (TX6 1).2.1 (TX6 1).2.2.1 ∈ lwg := tb1 74 rfl rfl
theorem fl_3_161 : Cond.fieldLink RX3 161 (TX6 2).1 (TX6 2).2.1 (TX6 2).2.2.1 ∈ lwg := tb1 80 rfl rfl
theorem fl_3_164 : Cond.fieldLink RX3 164 (TX6 3).1 (TX6 3).2.1 (TX6 3).2.2.1 ∈ lwg := tb1 84 rfl rfl
theorem fl_3_167 : Cond.fieldLink RX3 167 (TX6 8).1 (TX6 8).2.1 (TX6 8).2.2.1 ∈ lwg := tb1 104 rfl rfl
theorem fl_3_170 : Cond.fieldLink RX3 170 (TX6 5).1 (TX6 5).2.1 (TX6 5).2.2.1 ∈ lwg := tb1 94 rfl rfl
theorem fl_3_173 : Cond.fieldLink RX3 173 (TX6 6).1 (TX6 6).2.1 (TX6 6).2.2.1 ∈ lwg := tb1 97 rfl rfl
theorem fl_3_176 : Cond.fieldLink RX3 176 (TX6 7).1 (TX6 7).2.1 (TX6 7).2.2.1 ∈ lwg := tb1 100 rfl rfl
theorem fl_3_183 : Cond.fieldLink RX3 183 (TX6 14).1 (TX6 14).2.1 (TX6 14).2.2.1 ∈ lwg := tb1 125 rfl rfl
theorem fl_4_11 : Cond.fieldLink RX4 11 (TX4 0).1 (TX4 0).2.1 (TX4 0).2.2.1 ∈ lwg := tb2 211 rfl rfl
theorem fl_4_17 : Cond.fieldLink RX4 17 (TX4 3).1 (TX4 3).2.1 (TX4 3).2.2.1 ∈ lwg := tb2 214 rfl rfl
theorem fl_4_21 : Cond.fieldLink RX4 21 (TX4 4).1 (TX4 4).2.1 (TX4 4).2.2.1 ∈ lwg := tb2 215 rfl rfl
theorem fl_4_24 : Cond.fieldLink RX4 24 (TX4 5).1 (TX4 5).2.1 (TX4 5).2.2.1 ∈ lwg := tb2 216 rfl rfl
theorem fl_4_27 : Cond.fieldLink RX4 27 (TX4 6).1 (TX4 6).2.1 (TX4 6).2.2.1 ∈ lwg := tb2 218 rfl rfl
theorem fl_4_36 : Cond.fieldLink RX4 36 (TX4 1).1 (TX4 1).2.1 (TX4 1).2.2.1 ∈ lwg := tb2 212 rfl rfl
theorem fl_4_40 : Cond.fieldLink RX4 40 (TX4 2).1 (TX4 2).2.1 (TX4 2).2.2.1 ∈ lwg := tb2 213 rfl rfl
theorem fl_4_48 : Cond.fieldLink RX4 48 (TX10 3).1 (TX10 3).2.1 (TX10 3).2.2.1 ∈ lwg := tb2 113 rfl rfl
theorem fl_4_60 : Cond.fieldLink RX4 60 (TX5 0).1 (TX5 0).2.1 (TX5 0).2.2.1 ∈ lwg := tb2 25 rfl rfl
theorem fl_4_63 : Cond.fieldLink RX4 63 (TX5 1).1 (TX5 1).2.1 (TX5 1).2.2.1 ∈ lwg := tb2 29 rfl rfl
theorem fl_4_70 : Cond.fieldLink RX4 70 (TX10 2).1 (TX10 2).2.1 (TX10 2).2.2.1 ∈ lwg := tb2 110 rfl rfl
theorem fl_4_79 : Cond.fieldLink RX4 79 (TX5 3).1 (TX5 3).2.1 (TX5 3).2.2.1 ∈ lwg := tb2 38 rfl rfl
theorem fl_5_9 : Cond.fieldLink RX5 9 (TX5 4).1 (TX5 4).2.1 (TX5 4).2.2.1 ∈ lwg := tb2 40 rfl rfl
theorem fl_5_15 : Cond.fieldLink RX5 15 (TX5 5).1 (TX5 5).2.1 (TX5 5).2.2.1 ∈ lwg := tb2 41 rfl rfl
theorem fl_5_18 : Cond.fieldLink RX5 18 (TX5 2).1 (TX5 2).2.1 (TX5 2).2.2.1 ∈ lwg := tb2 32 rfl rfl
theorem fl_5_22 : Cond.fieldLink RX5 22 (TX5 3).1 (TX5 3).2.1 (TX5 3).2.2.1 ∈ lwg := tb2 36 rfl rfl
theorem fl_6_9 : Cond.fieldLink RX6 9 (TX6 0).1 (TX6 0).2.1 (TX6 0).2.2.1 ∈ lwg := tb1 68 rfl rfl
theorem fl_6_15 : Cond.fieldLink RX6 15 (TX6 1).1 (TX6 1).2.1 (TX6 1).2.2.1 ∈ lwg := tb1 72 rfl rfl
theorem fl_6_18 : Cond.fieldLink RX6 18 (TX6 2).1 (TX6 2).2.1 (TX6 2).2.2.1 ∈ lwg := tb1 76 rfl rfl
theorem fl_6_21 : Cond.fieldLink RX6 21 (TX6 3).1 (TX6 3).2.1 (TX6 3).2.2.1 ∈ lwg := tb1 81 rfl rfl
theorem fl_6_24 : Cond.fieldLink RX6 24 (TX6 5).1 (TX6 5).2.1 (TX6 5).2.2.1 ∈ lwg := tb1 92 rfl rfl
theorem fl_6_27 : Cond.fieldLink RX6 27 (TX6 6).1 (TX6 6).2.1 (TX6 6).2.2.1 ∈ lwg := tb1 95 rfl rfl
theorem fl_6_30 : Cond.fieldLink RX6 30 (TX6 7).1 (TX6 7).2.1 (TX6 7).2.2.1 ∈ lwg := tb1 98 rfl rfl
theorem fl_6_36 : Cond.fieldLink RX6 36 (TX6 14).1 (TX6 14).2.1 (TX6 14).2.2.1 ∈ lwg := tb1 123 rfl rfl
theorem fl_6_40 : Cond.fieldLink RX6 40 (TX6 4).1 (TX6 4).2.1 (TX6 4).2.2.1 ∈ lwg := tb1 86 rfl rfl
theorem fl_6_44 : Cond.fieldLink RX6 44 (TX6 8).1 (TX6 8).2.1 (TX6 8).2.2.1 ∈ lwg := tb1 101 rfl rfl
theorem fl_6_47 : Cond.fieldLink RX6 47 (TX6 9).1 (TX6 9).2.1 (TX6 9).2.2.1 ∈ lwg := tb1 106 rfl rfl
theorem fl_6_50 : Cond.fieldLink RX6 50 (TX6 10).1 (TX6 10).2.1 (TX6 10).2.2.1 ∈ lwg := tb1 110 rfl rfl
theorem fl_6_53 : Cond.fieldLink RX6 53 (TX6 11).1 (TX6 11).2.1 (TX6 11).2.2.1 ∈ lwg := tb1 114 rfl rfl
theorem fl_6_56 : Cond.fieldLink RX6 56 (TX6 12).1 (TX6 12).2.1 (TX6 12).2.2.1 ∈ lwg := tb1 117 rfl rfl
theorem fl_6_59 : Cond.fieldLink RX6 59 (TX6 13).1 (TX6 13).2.1 (TX6 13).2.2.1 ∈ lwg := tb1 120 rfl rfl
theorem fl_7_12 : Cond.fieldLink RX7 12 (TX7 0).1 (TX7 0).2.1 (TX7 0).2.2.1 ∈ lwg := tb2 55 rfl rfl
theorem fl_7_18 : Cond.fieldLink RX7 18 (TX7 1).1 (TX7 1).2.1 (TX7 1).2.2.1 ∈ lwg := tb2 60 rfl rfl
theorem fl_7_22 : Cond.fieldLink RX7 22 (TX7 2).1 (TX7 2).2.1 (TX7 2).2.2.1 ∈ lwg := tb2 62 rfl rfl
theorem fl_7_27 : Cond.fieldLink RX7 27 (TX7 3).1 (TX7 3).2.1 (TX7 3).2.2.1 ∈ lwg := tb2 64 rfl rfl
theorem fl_7_31 : Cond.fieldLink RX7 31 (TX7 4).1 (TX7 4).2.1 (TX7 4).2.2.1 ∈ lwg := tb2 68 rfl rfl
theorem fl_7_34 : Cond.fieldLink RX7 34 (TX7 5).1 (TX7 5).2.1 (TX7 5).2.2.1 ∈ lwg := tb2 71 rfl rfl
theorem fl_7_37 : Cond.fieldLink RX7 37 (TX7 6).1 (TX7 6).2.1 (TX7 6).2.2.1 ∈ lwg := tb2 73 rfl rfl
theorem fl_7_41 : Cond.fieldLink RX7 41 (TX6 14).1 (TX6 14).2.1 (TX6 14).2.2.1 ∈ lwg := tb1 124 rfl rfl
theorem fl_7_52 : Cond.fieldLink RX7 52 (TX6 4).1 (TX6 4).2.1 (TX6 4).2.2.1 ∈ lwg := tb1 87 rfl rfl
theorem fl_7_56 : Cond.fieldLink RX7 56 (TX6 0).1 (TX6 0).2.1 (TX6 0).2.2.1 ∈ lwg := tb1 69 rfl rfl
theorem fl_7_59 : Cond.fieldLink RX7 59 (TX5 0).1 (TX5 0).2.1 (TX5 0).2.2.1 ∈ lwg := tb2 24 rfl rfl
theorem fl_7_62 : Cond.fieldLink RX7 62 (TX6 1).1 (TX6 1).2.1 (TX6 1).2.2.1 ∈ lwg := tb1 73 rfl rfl
theorem fl_7_65 : Cond.fieldLink RX7 65 (TX5 1).1 (TX5 1).2.1 (TX5 1).2.2.1 ∈ lwg := tb2 28 rfl rfl
theorem fl_7_68 : Cond.fieldLink RX7 68 (TX6 3).1 (TX6 3).2.1 (TX6 3).2.2.1 ∈ lwg := tb1 82 rfl rfl
theorem fl_7_71 : Cond.fieldLink RX7 71 (TX5 3).1 (TX5 3).2.1 (TX5 3).2.2.1 ∈ lwg := tb2 35 rfl rfl
theorem fl_7_77 : Cond.fieldLink RX7 77 (TX6 2).1 (TX6 2).2.1 (TX6 2).2.2.1 ∈ lwg := tb1 77 rfl rfl
theorem fl_7_87 : Cond.fieldLink RX7 87 (TX5 2).1 (TX5 2).2.1 (TX5 2).2.2.1 ∈ lwg := tb2 33 rfl rfl
theorem fl_7_89 : Cond.fieldLink RX7 89 (TX6 9).1 (TX6 9).2.1 (TX6 9).2.2.1 ∈ lwg := tb1 107 rfl rfl
theorem fl_7_92 : Cond.fieldLink RX7 92 (TX6 10).1 (TX6 10).2.1 (TX6 10).2.2.1 ∈ lwg := tb1 111 rfl rfl
theorem fl_8_11 : Cond.fieldLink RX8 11 (TX8 0).1 (TX8 0).2.1 (TX8 0).2.2.1 ∈ lwg := tb2 134 rfl rfl
theorem fl_8_17 : Cond.fieldLink RX8 17 (TX8 1).1 (TX8 1).2.1 (TX8 1).2.2.1 ∈ lwg := tb2 139 rfl rfl
theorem fl_8_21 : Cond.fieldLink RX8 21 (TX8 2).1 (TX8 2).2.1 (TX8 2).2.2.1 ∈ lwg := tb2 142 rfl rfl
theorem fl_8_24 : Cond.fieldLink RX8 24 (TX8 3).1 (TX8 3).2.1 (TX8 3).2.2.1 ∈ lwg := tb2 144 rfl rfl
theorem fl_8_27 : Cond.fieldLink RX8 27 (TX8 4).1 (TX8 4).2.1 (TX8 4).2.2.1 ∈ lwg := tb2 147 rfl rfl
theorem fl_8_31 : Cond.fieldLink RX8 31 (TX8 5).1 (TX8 5).2.1 (TX8 5).2.2.1 ∈ lwg := tb2 150 rfl rfl
theorem fl_8_34 : Cond.fieldLink RX8 34 (TX8 6).1 (TX8 6).2.1 (TX8 6).2.2.1 ∈ lwg := tb2 152 rfl rfl
theorem fl_8_37 : Cond.fieldLink RX8 37 (TX8 7).1 (TX8 7).2.1 (TX8 7).2.2.1 ∈ lwg := tb2 154 rfl rfl
theorem fl_8_45 : Cond.fieldLink RX8 45 (TX8 8).1 (TX8 8).2.1 (TX8 8).2.2.1 ∈ lwg := tb2 156 rfl rfl
theorem fl_8_59 : Cond.fieldLink RX8 59 (TX7 3).1 (TX7 3).2.1 (TX7 3).2.2.1 ∈ lwg := tb2 66 rfl rfl
theorem fl_8_79 : Cond.fieldLink RX8 79 (TX5 3).1 (TX5 3).2.1 (TX5 3).2.2.1 ∈ lwg := tb2 37 rfl rfl
theorem fl_8_90 : Cond.fieldLink RX8 90 (TX10 4).1 (TX10 4).2.1 (TX10 4).2.2.1 ∈ lwg := tb2 120 rfl rfl
theorem fl_8_93 : Cond.fieldLink RX8 93 (TX7 0).1 (TX7 0).2.1 (TX7 0).2.2.1 ∈ lwg := tb2 59 rfl rfl
theorem fl_8_97 : Cond.fieldLink RX8 97 (TX6 2).1 (TX6 2).2.1 (TX6 2).2.2.1 ∈ lwg := tb1 78 rfl rfl
theorem fl_8_118 : Cond.fieldLink RX8 118 (TX6 4).1 (TX6 4).2.1 (TX6 4).2.2.1 ∈ lwg := tb1 89 rfl rfl
theorem fl_9_9 : Cond.fieldLink RX9 9 (TX9 0).1 (TX9 0).2.1 (TX9 0).2.2.1 ∈ lwg := tb3 39 rfl rfl
theorem fl_9_15 : Cond.fieldLink RX9 15 (TX9 1).1 (TX9 1).2.1 (TX9 1).2.2.1 ∈ lwg := tb3 40 rfl rfl
theorem fl_9_18 : Cond.fieldLink RX9 18 (TX9 2).1 (TX9 2).2.1 (TX9 2).2.2.1 ∈ lwg := tb3 41 rfl rfl
theorem fl_9_25 : Cond.fieldLink RX9 25 (TX9 3).1 (TX9 3).2.1 (TX9 3).2.2.1 ∈ lwg := tb3 42 rfl rfl
theorem fl_9_29 : Cond.fieldLink RX9 29 (TX9 4).1 (TX9 4).2.1 (TX9 4).2.2.1 ∈ lwg := tb3 43 rfl rfl
theorem fl_9_33 : Cond.fieldLink RX9 33 (TX7 0).1 (TX7 0).2.1 (TX7 0).2.2.1 ∈ lwg := tb2 57 rfl rfl
theorem fl_9_39 : Cond.fieldLink RX9 39 (TX6 8).1 (TX6 8).2.1 (TX6 8).2.2.1 ∈ lwg := tb1 102 rfl rfl
theorem fl_9_56 : Cond.fieldLink RX9 56 (TX8 0).1 (TX8 0).2.1 (TX8 0).2.2.1 ∈ lwg := tb2 137 rfl rfl
theorem fl_9_60 : Cond.fieldLink RX9 60 (TX10 3).1 (TX10 3).2.1 (TX10 3).2.2.1 ∈ lwg := tb2 115 rfl rfl
theorem fl_9_65 : Cond.fieldLink RX9 65 (TX8 8).1 (TX8 8).2.1 (TX8 8).2.2.1 ∈ lwg := tb2 157 rfl rfl
theorem fl_9_74 : Cond.fieldLink RX9 74 (TX8 6).1 (TX8 6).2.1 (TX8 6).2.2.1 ∈ lwg := tb2 153 rfl rfl
theorem fl_9_77 : Cond.fieldLink RX9 77 (TX8 7).1 (TX8 7).2.1 (TX8 7).2.2.1 ∈ lwg := tb2 155 rfl rfl
theorem fl_9_80 : Cond.fieldLink RX9 80 (TX8 5).1 (TX8 5).2.1 (TX8 5).2.2.1 ∈ lwg := tb2 151 rfl rfl
theorem fl_10_7 : Cond.fieldLink RX10 7 (TX10 0).1 (TX10 0).2.1 (TX10 0).2.2.1 ∈ lwg := tb2 103 rfl rfl
theorem fl_10_13 : Cond.fieldLink RX10 13 (TX10 1).1 (TX10 1).2.1 (TX10 1).2.2.1 ∈ lwg := tb2 106 rfl rfl
theorem fl_10_16 : Cond.fieldLink RX10 16 (TX10 2).1 (TX10 2).2.1 (TX10 2).2.2.1 ∈ lwg := tb2 109 rfl rfl
theorem fl_10_19 : Cond.fieldLink RX10 19 (TX10 3).1 (TX10 3).2.1 (TX10 3).2.2.1 ∈ lwg := tb2 112 rfl rfl
theorem fl_10_22 : Cond.fieldLink RX10 22 (TX10 4).1 (TX10 4).2.1 (TX10 4).2.2.1 ∈ lwg := tb2 118 rfl rfl
theorem fl_10_25 : Cond.fieldLink RX10 25 (TX6 5).1 (TX6 5).2.1 (TX6 5).2.2.1 ∈ lwg := tb1 93 rfl rfl
theorem fl_10_31 : Cond.fieldLink RX10 31 (TX6 6).1 (TX6 6).2.1 (TX6 6).2.2.1 ∈ lwg := tb1 96 rfl rfl
theorem fl_10_34 : Cond.fieldLink RX10 34 (TX6 7).1 (TX6 7).2.1 (TX6 7).2.2.1 ∈ lwg := tb1 99 rfl rfl
theorem fl_10_36 : Cond.fieldLink RX10 36 (TX5 0).1 (TX5 0).2.1 (TX5 0).2.2.1 ∈ lwg := tb2 26 rfl rfl
theorem fl_10_39 : Cond.fieldLink RX10 39 (TX5 1).1 (TX5 1).2.1 (TX5 1).2.2.1 ∈ lwg := tb2 30 rfl rfl
theorem fl_12_13 : Cond.fieldLink RX12 13 (TX12 1).1 (TX12 1).2.1 (TX12 1).2.2.1 ∈ lwg := tb6 132 rfl rfl
theorem fl_12_17 : Cond.fieldLink RX12 17 (TX12 3).1 (TX12 3).2.1 (TX12 3).2.2.1 ∈ lwg := tb6 134 rfl rfl
theorem fl_12_20 : Cond.fieldLink RX12 20 (TX12 5).1 (TX12 5).2.1 (TX12 5).2.2.1 ∈ lwg := tb6 136 rfl rfl
theorem fl_12_24 : Cond.fieldLink RX12 24 (TX12 6).1 (TX12 6).2.1 (TX12 6).2.2.1 ∈ lwg := tb6 137 rfl rfl
theorem fl_12_27 : Cond.fieldLink RX12 27 (TX12 7).1 (TX12 7).2.1 (TX12 7).2.2.1 ∈ lwg := tb6 138 rfl rfl
theorem fl_12_30 : Cond.fieldLink RX12 30 (TX12 8).1 (TX12 8).2.1 (TX12 8).2.2.1 ∈ lwg := tb6 139 rfl rfl
theorem fl_12_34 : Cond.fieldLink RX12 34 (TX12 9).1 (TX12 9).2.1 (TX12 9).2.2.1 ∈ lwg := tb6 140 rfl rfl
theorem fl_12_37 : Cond.fieldLink RX12 37 (TX12 17).1 (TX12 17).2.1 (TX12 17).2.2.1 ∈ lwg := tb6 148 rfl rfl
theorem fl_12_40 : Cond.fieldLink RX12 40 (TX12 21).1 (TX12 21).2.1 (TX12 21).2.2.1 ∈ lwg := tb6 152 rfl rfl
theorem fl_12_43 : Cond.fieldLink RX12 43 (TX12 22).1 (TX12 22).2.1 (TX12 22).2.2.1 ∈ lwg := tb6 153 rfl rfl
theorem fl_12_46 : Cond.fieldLink RX12 46 (TX12 23).1 (TX12 23).2.1 (TX12 23).2.2.1 ∈ lwg := tb6 154 rfl rfl
theorem fl_12_49 : Cond.fieldLink RX12 49 (TX12 24).1 (TX12 24).2.1 (TX12 24).2.2.1 ∈ lwg := tb6 155 rfl rfl
theorem fl_12_52 : Cond.fieldLink RX12 52 (TX12 25).1 (TX12 25).2.1 (TX12 25).2.2.1 ∈ lwg := tb6 156 rfl rfl
theorem fl_12_55 : Cond.fieldLink RX12 55 (TX12 26).1 (TX12 26).2.1 (TX12 26).2.2.1 ∈ lwg := tb6 157 rfl rfl
theorem fl_12_58 : Cond.fieldLink RX12 58 (TX12 27).1 (TX12 27).2.1 (TX12 27).2.2.1 ∈ lwg := tb6 158 rfl rfl
theorem fl_12_61 : Cond.fieldLink RX12 61 (TX12 28).1 (TX12 28).2.1 (TX12 28).2.2.1 ∈ lwg := tb6 159 rfl rfl
theorem fl_12_64 : Cond.fieldLink RX12 64 (TX12 29).1 (TX12 29).2.1 (TX12 29).2.2.1 ∈ lwg := tb6 160 rfl rfl
theorem fl_12_67 : Cond.fieldLink RX12 67 (TX12 30).1 (TX12 30).2.1 (TX12 30).2.2.1 ∈ lwg := tb6 161 rfl rfl
theorem fl_12_70 : Cond.fieldLink RX12 70 (TX12 31).1 (TX12 31).2.1 (TX12 31).2.2.1 ∈ lwg := tb6 162 rfl rfl
theorem fl_12_73 : Cond.fieldLink RX12 73 (TX12 32).1 (TX12 32).2.1 (TX12 32).2.2.1 ∈ lwg := tb6 163 rfl rfl
theorem fl_12_76 : Cond.fieldLink RX12 76 (TX12 33).1 (TX12 33).2.1 (TX12 33).2.2.1 ∈ lwg := tb6 164 rfl rfl
theorem fl_12_79 : Cond.fieldLink RX12 79 (TX12 34).1 (TX12 34).2.1 (TX12 34).2.2.1 ∈ lwg := tb6 165 rfl rfl
theorem fl_12_82 : Cond.fieldLink RX12 82 (TX12 35).1 (TX12 35).2.1 (TX12 35).2.2.1 ∈ lwg := tb6 166 rfl rfl
theorem fl_12_85 : Cond.fieldLink RX12 85 (TX12 36).1 (TX12 36).2.1 (TX12 36).2.2.1 ∈ lwg := tb6 167 rfl rfl
theorem fl_12_88 : Cond.fieldLink RX12 88 (TX12 37).1 (TX12 37).2.1 (TX12 37).2.2.1 ∈ lwg := tb6 168 rfl rfl
theorem fl_12_91 : Cond.fieldLink RX12 91 (TX12 39).1 (TX12 39).2.1 (TX12 39).2.2.1 ∈ lwg := tb6 170 rfl rfl
theorem fl_12_95 : Cond.fieldLink RX12 95 (TX12 40).1 (TX12 40).2.1 (TX12 40).2.2.1 ∈ lwg := tb6 171 rfl rfl
theorem fl_12_98 : Cond.fieldLink RX12 98 (TX12 41).1 (TX12 41).2.1 (TX12 41).2.2.1 ∈ lwg := tb6 172 rfl rfl
theorem fl_12_101 : Cond.fieldLink RX12 101 (TX12 42).1 (TX12 42).2.1 (TX12 42).2.2.1 ∈ lwg := tb6 173 rfl rfl
theorem fl_12_104 : Cond.fieldLink RX12 104 (TX12 43).1 (TX12 43).2.1 (TX12 43).2.2.1 ∈ lwg := tb6 174 rfl rfl
theorem fl_12_107 : Cond.fieldLink RX12 107 (TX12 45).1 (TX12 45).2.1 (TX12 45).2.2.1 ∈ lwg := tb6 176 rfl rfl
theorem fl_12_110 : Cond.fieldLink RX12 110 (TX12 46).1 (TX12 46).2.1 (TX12 46).2.2.1 ∈ lwg := tb6 177 rfl rfl
theorem fl_12_113 : Cond.fieldLink RX12 113 (TX12 47).1 (TX12 47).2.1 (TX12 47).2.2.1 ∈ lwg := tb6 178 rfl rfl
theorem fl_12_116 : Cond.fieldLink RX12 116 (TX12 49).1 (TX12 49).2.1 (TX12 49).2.2.1 ∈ lwg := tb6 180 rfl rfl
theorem fl_12_119 : Cond.fieldLink RX12 119 (TX12 50).1 (TX12 50).2.1 (TX12 50).2.2.1 ∈ lwg := tb6 181 rfl rfl
theorem fl_12_122 : Cond.fieldLink RX12 122 (TX12 52).1 (TX12 52).2.1 (TX12 52).2.2.1 ∈ lwg := tb6 183 rfl rfl
theorem fl_12_125 : Cond.fieldLink RX12 125 (TX12 53).1 (TX12 53).2.1 (TX12 53).2.2.1 ∈ lwg := tb6 184 rfl rfl
theorem fl_12_128 : Cond.fieldLink RX12 128 (TX12 54).1 (TX12 54).2.1 (TX12 54).2.2.1 ∈ lwg := tb6 185 rfl rfl
theorem fl_12_131 : Cond.fieldLink RX12 131 (TX12 55).1 (TX12 55).2.1 (TX12 55).2.2.1 ∈ lwg := tb6 186 rfl rfl
theorem fl_12_134 : Cond.fieldLink RX12 134 (TX12 56).1 (TX12 56).2.1 (TX12 56).2.2.1 ∈ lwg := tb6 187 rfl rfl
theorem fl_12_137 : Cond.fieldLink RX12 137 (TX12 57).1 (TX12 57).2.1 (TX12 57).2.2.1 ∈ lwg := tb6 188 rfl rfl
theorem fl_12_140 : Cond.fieldLink RX12 140 (TX12 58).1 (TX12 58).2.1 (TX12 58).2.2.1 ∈ lwg := tb6 189 rfl rfl
theorem fl_12_143 : Cond.fieldLink RX12 143 (TX12 59).1 (TX12 59).2.1 (TX12 59).2.2.1 ∈ lwg := tb6 190 rfl rfl
theorem fl_12_146 : Cond.fieldLink RX12 146 (TX12 60).1 (TX12 60).2.1 (TX12 60).2.2.1 ∈ lwg := tb6 191 rfl rfl
theorem fl_12_149 : Cond.fieldLink RX12 149 (TX12 61).1 (TX12 61).2.1 (TX12 61).2.2.1 ∈ lwg := tb6 192 rfl rfl
theorem fl_12_152 : Cond.fieldLink RX12 152 (TX12 62).1 (TX12 62).2.1 (TX12 62).2.2.1 ∈ lwg := tb6 193 rfl rfl
theorem fl_12_155 : Cond.fieldLink RX12 155 (TX12 63).1 (TX12 63).2.1 (TX12 63).2.2.1 ∈ lwg := tb6 194 rfl rfl
theorem fl_12_158 : Cond.fieldLink RX12 158 (TX12 65).1 (TX12 65).2.1 (TX12 65).2.2.1 ∈ lwg := tb6 196 rfl rfl
theorem fl_12_161 : Cond.fieldLink RX12 161 (TX12 66).1 (TX12 66).2.1 (TX12 66).2.2.1 ∈ lwg := tb6 197 rfl rfl
theorem fl_12_164 : Cond.fieldLink RX12 164 (TX12 72).1 (TX12 72).2.1 (TX12 72).2.2.1 ∈ lwg := tb6 203 rfl rfl
theorem fl_12_167 : Cond.fieldLink RX12 167 (TX12 74).1 (TX12 74).2.1 (TX12 74).2.2.1 ∈ lwg := tb6 205 rfl rfl
theorem fl_12_170 : Cond.fieldLink RX12 170 (TX12 75).1 (TX12 75).2.1 (TX12 75).2.2.1 ∈ lwg := tb6 206 rfl rfl
theorem fl_12_173 : Cond.fieldLink RX12 173 (TX12 76).1 (TX12 76).2.1 (TX12 76).2.2.1 ∈ lwg := tb6 207 rfl rfl
theorem fl_12_176 : Cond.fieldLink RX12 176 (TX12 77).1 (TX12 77).2.1 (TX12 77).2.2.1 ∈ lwg := tb6 208 rfl rfl
theorem fl_12_179 : Cond.fieldLink RX12 179 (TX12 78).1 (TX12 78).2.1 (TX12 78).2.2.1 ∈ lwg := tb6 209 rfl rfl
theorem fl_12_182 : Cond.fieldLink RX12 182 (TX12 81).1 (TX12 81).2.1 (TX12 81).2.2.1 ∈ lwg := tb6 212 rfl rfl
theorem fl_12_185 : Cond.fieldLink RX12 185 (TX12 82).1 (TX12 82).2.1 (TX12 82).2.2.1 ∈ lwg := tb6 213 rfl rfl
theorem fl_12_188 : Cond.fieldLink RX12 188 (TX12 83).1 (TX12 83).2.1 (TX12 83).2.2.1 ∈ lwg := tb6 214 rfl rfl
theorem fl_12_191 : Cond.fieldLink RX12 191 (TX12 84).1 (TX12 84).2.1 (TX12 84).2.2.1 ∈ lwg := tb6 215 rfl rfl
theorem fl_12_194 : Cond.fieldLink RX12 194 (TX12 85).1 (TX12 85).2.1 (TX12 85).2.2.1 ∈ lwg := tb6 216 rfl rfl
theorem fl_12_214 : Cond.fieldLink RX12 214 (TX12 2).1 (TX12 2).2.1 (TX12 2).2.2.1 ∈ lwg := tb6 133 rfl rfl
theorem fl_12_220 : Cond.fieldLink RX12 220 (TX12 4).1 (TX12 4).2.1 (TX12 4).2.2.1 ∈ lwg := tb6 135 rfl rfl
theorem fl_12_229 : Cond.fieldLink RX12 229 (TX12 10).1 (TX12 10).2.1 (TX12 10).2.2.1 ∈ lwg := tb6 141 rfl rfl
theorem fl_12_251 : Cond.fieldLink RX12 251 (TX12 13).1 (TX12 13).2.1 (TX12 13).2.2.1 ∈ lwg := tb6 144 rfl rfl
theorem fl_12_254 : Cond.fieldLink RX12 254 (TX12 11).1 (TX12 11).2.1 (TX12 11).2.2.1 ∈ lwg := tb6 142 rfl rfl
theorem fl_12_257 : Cond.fieldLink RX12 257 (TX12 14).1 (TX12 14).2.1 (TX12 14).2.2.1 ∈ lwg := tb6 145 rfl rfl
theorem fl_12_260 : Cond.fieldLink RX12 260 (TX12 15).1 (TX12 15).2.1 (TX12 15).2.2.1 ∈ lwg := tb6 146 rfl rfl
theorem fl_12_263 : Cond.fieldLink RX12 263 (TX12 16).1 (TX12 16).2.1 (TX12 16).2.2.1 ∈ lwg := tb6 147 rfl rfl
theorem fl_12_278 : Cond.fieldLink RX12 278 (TX12 12).1 (TX12 12).2.1 (TX12 12).2.2.1 ∈ lwg := tb6 143 rfl rfl
theorem fl_12_281 : Cond.fieldLink RX12 281 (TX12 18).1 (TX12 18).2.1 (TX12 18).2.2.1 ∈ lwg := tb6 149 rfl rfl
theorem fl_12_284 : Cond.fieldLink RX12 284 (TX12 19).1 (TX12 19).2.1 (TX12 19).2.2.1 ∈ lwg := tb6 150 rfl rfl
theorem fl_12_287 : Cond.fieldLink RX12 287 (TX12 20).1 (TX12 20).2.1 (TX12 20).2.2.1 ∈ lwg := tb6 151 rfl rfl
theorem fl_12_290 : Cond.fieldLink RX12 290 (TX12 38).1 (TX12 38).2.1 (TX12 38).2.2.1 ∈ lwg := tb6 169 rfl rfl
theorem fl_12_293 : Cond.fieldLink RX12 293 (TX12 44).1 (TX12 44).2.1 (TX12 44).2.2.1 ∈ lwg := tb6 175 rfl rfl
theorem fl_12_299 : Cond.fieldLink RX12 299 (TX12 64).1 (TX12 64).2.1 (TX12 64).2.2.1 ∈ lwg := tb6 195 rfl rfl
theorem fl_12_302 : Cond.fieldLink RX12 302 (TX12 80).1 (TX12 80).2.1 (TX12 80).2.2.1 ∈ lwg := tb6 211 rfl rfl
theorem fl_12_338 : Cond.fieldLink RX12 338 (TX12 48).1 (TX12 48).2.1 (TX12 48).2.2.1 ∈ lwg := tb6 179 rfl rfl
theorem fl_12_351 : Cond.fieldLink RX12 351 (TX12 51).1 (TX12 51).2.1 (TX12 51).2.2.1 ∈ lwg := tb6 182 rfl rfl
theorem fl_12_427 : Cond.fieldLink RX12 427 (TX12 70).1 (TX12 70).2.1 (TX12 70).2.2.1 ∈ lwg := tb6 201 rfl rfl
theorem fl_12_430 : Cond.fieldLink RX12 430 (TX12 71).1 (TX12 71).2.1 (TX12 71).2.2.1 ∈ lwg := tb6 202 rfl rfl
theorem fl_12_434 : Cond.fieldLink RX12 434 (TX12 67).1 (TX12 67).2.1 (TX12 67).2.2.1 ∈ lwg := tb6 198 rfl rfl
theorem fl_12_437 : Cond.fieldLink RX12 437 (TX12 68).1 (TX12 68).2.1 (TX12 68).2.2.1 ∈ lwg := tb6 199 rfl rfl
theorem fl_12_440 : Cond.fieldLink RX12 440 (TX12 69).1 (TX12 69).2.1 (TX12 69).2.2.1 ∈ lwg := tb6 200 rfl rfl
theorem fl_12_479 : Cond.fieldLink RX12 479 (TX12 73).1 (TX12 73).2.1 (TX12 73).2.2.1 ∈ lwg := tb6 204 rfl rfl
theorem fl_12_510 : Cond.fieldLink RX12 510 (TX12 79).1 (TX12 79).2.1 (TX12 79).2.2.1 ∈ lwg := tb6 210 rfl rfl
theorem ml_11_19 : Cond.methodLink RX11 19 yX3_init ∈ lwg := tb1 33 rfl rfl
theorem ml_11_26 : Cond.methodLink RX11 26 yX7_init ∈ lwg := tb2 11 rfl rfl
theorem ml_11_33 : Cond.methodLink RX11 33 yX8_init ∈ lwg := tb2 92 rfl rfl
theorem ml_11_55 : Cond.methodLink RX11 55 yX2_init ∈ lwg := tb2 199 rfl rfl
theorem ml_11_81 : Cond.methodLink RX11 81 yX6_clear ∈ lwg := tb3 56 rfl rfl
theorem ml_11_86 : Cond.methodLink RX11 86 yX11_beginDay ∈ lwg := tb3 76 rfl rfl
theorem ml_11_92 : Cond.methodLink RX11 92 yX11_putBytes ∈ lwg := tb3 220 rfl rfl
theorem ml_11_96 : Cond.methodLink RX11 96 yX3_readText ∈ lwg := tb3 232 rfl rfl
theorem ml_11_102 : Cond.methodLink RX11 102 yX11_isPart ∈ lwg := tb4 141 rfl rfl
theorem ml_11_130 : Cond.methodLink RX11 130 yX11_isWorker ∈ lwg := tb4 149 rfl rfl
theorem ml_11_154 : Cond.methodLink RX11 154 yX11_isMinute ∈ lwg := tb4 157 rfl rfl
theorem ml_11_163 : Cond.methodLink RX11 163 yX5_freeFor ∈ lwg := tb4 164 rfl rfl
theorem ml_11_167 : Cond.methodLink RX11 167 yX5_startFrom ∈ lwg := tb4 172 rfl rfl
theorem ml_11_170 : Cond.methodLink RX11 170 yX1_note ∈ lwg := tb4 180 rfl rfl
theorem ml_11_174 : Cond.methodLink RX11 174 yX8_rake ∈ lwg := tb4 184 rfl rfl
theorem ml_11_178 : Cond.methodLink RX11 178 yX11_keepIfDone ∈ lwg := tb4 214 rfl rfl
theorem ml_11_181 : Cond.methodLink RX11 181 yX8_strike ∈ lwg := tb4 227 rfl rfl
theorem ml_11_184 : Cond.methodLink RX11 184 yX8_repair ∈ lwg := tb4 235 rfl rfl
theorem ml_11_187 : Cond.methodLink RX11 187 yX1_takeBack ∈ lwg := tb5 4 rfl rfl
theorem ml_11_191 : Cond.methodLink RX11 191 yX2_forgetRows ∈ lwg := tb3 162 rfl rfl
theorem ml_11_194 : Cond.methodLink RX11 194 yX8_visible ∈ lwg := tb5 12 rfl rfl
theorem ml_11_198 : Cond.methodLink RX11 198 yX11_picture ∈ lwg := tb5 29 rfl rfl
theorem ml_11_201 : Cond.methodLink RX11 201 yX11_isBound ∈ lwg := tb5 45 rfl rfl
theorem ml_11_204 : Cond.methodLink RX11 204 yX2_rowsOf ∈ lwg := tb5 48 rfl rfl
theorem ml_11_208 : Cond.methodLink RX11 208 yX11_answer ∈ lwg := tb5 77 rfl rfl
theorem ml_11_212 : Cond.methodLink RX11 212 yX2_trace ∈ lwg := tb5 89 rfl rfl
theorem ml_11_219 : Cond.methodLink RX11 219 yX2_bestPair ∈ lwg := tb5 113 rfl rfl
theorem ml_11_226 : Cond.methodLink RX11 226 yX2_sharedSet ∈ lwg := tb5 129 rfl rfl
theorem ml_11_230 : Cond.methodLink RX11 230 yX2_slack ∈ lwg := tb5 145 rfl rfl
theorem ml_11_236 : Cond.methodLink RX11 236 yX8_wouldBeDone ∈ lwg := tb5 161 rfl rfl
theorem ml_11_239 : Cond.methodLink RX11 239 yX2_mendingRows ∈ lwg := tb5 166 rfl rfl
theorem ml_11_242 : Cond.methodLink RX11 242 yX2_visibleAfter ∈ lwg := tb5 178 rfl rfl
theorem ml_11_246 : Cond.methodLink RX11 246 yX7_holds ∈ lwg := tb5 187 rfl rfl
theorem ml_11_250 : Cond.methodLink RX11 250 yX11_lastHolding ∈ lwg := tb5 192 rfl rfl
theorem ml_11_254 : Cond.methodLink RX11 254 yX2_largest ∈ lwg := tb5 200 rfl rfl
theorem ml_11_257 : Cond.methodLink RX11 257 yX11_letDogsRun ∈ lwg := tb5 215 rfl rfl
theorem ml_11_261 : Cond.methodLink RX11 261 yX7_dogTells ∈ lwg := tb5 228 rfl rfl
theorem ml_11_271 : Cond.methodLink RX11 271 yX9_add ∈ lwg := tb6 20 rfl rfl
theorem ml_11_281 : Cond.methodLink RX11 281 yX9_way ∈ lwg := tb6 32 rfl rfl
theorem ml_11_284 : Cond.methodLink RX11 284 yX11_isSlot ∈ lwg := tb6 54 rfl rfl
theorem ml_11_287 : Cond.methodLink RX11 287 yX8_copy ∈ lwg := tb6 57 rfl rfl
theorem ml_11_301 : Cond.methodLink RX11 301 yX8_neverDone ∈ lwg := tb6 73 rfl rfl
theorem ml_11_305 : Cond.methodLink RX11 305 yJ6_bitCount_0f7a4 ∈ lwg := tb6 74 rfl rfl
theorem ml_11_310 : Cond.methodLink RX11 310 yX8_crossedSet ∈ lwg := tb6 75 rfl rfl
theorem ml_11_313 : Cond.methodLink RX11 313 yX11_heldSlots ∈ lwg := tb6 76 rfl rfl
theorem ml_11_316 : Cond.methodLink RX11 316 yX7_settle ∈ lwg := tb3 80 rfl rfl
theorem ml_11_319 : Cond.methodLink RX11 319 yX8_begin ∈ lwg := tb3 154 rfl rfl
theorem ml_11_323 : Cond.methodLink RX11 323 yX2_forgetSizes ∈ lwg := tb3 166 rfl rfl
theorem ml_11_326 : Cond.methodLink RX11 326 yX1_keep ∈ lwg := tb4 218 rfl rfl
theorem ml_11_332 : Cond.methodLink RX11 332 yX11_mixed ∈ lwg := tb5 219 rfl rfl
theorem ml_11_335 : Cond.methodLink RX11 335 yX11_letDogsRunOver ∈ lwg := tb5 223 rfl rfl
theorem ml_11_339 : Cond.methodLink RX11 339 yX8_visibleFrom ∈ lwg := tb5 227 rfl rfl
theorem ml_11_342 : Cond.methodLink RX11 342 yX11_isRunOver ∈ lwg := tb5 236 rfl rfl
theorem ml_11_347 : Cond.methodLink RX11 347 yX4_bestSet ∈ lwg := tb5 81 rfl rfl
theorem ml_0_26 : Cond.methodLink RX0 26 yX0_begin ∈ lwg := tb3 64 rfl rfl
theorem ml_0_30 : Cond.methodLink RX0 30 yX0_tellOne ∈ lwg := tb3 68 rfl rfl
theorem ml_0_34 : Cond.methodLink RX0 34 yX0_emit ∈ lwg := tb3 72 rfl rfl
theorem ml_0_38 : Cond.methodLink RX0 38 yX0_setVariables ∈ lwg := tb3 88 rfl rfl
theorem ml_0_42 : Cond.methodLink RX0 42 yX0_value ∈ lwg := tb3 92 rfl rfl
theorem ml_0_46 : Cond.methodLink RX0 46 yX0_within ∈ lwg := tb3 99 rfl rfl
theorem ml_0_58 : Cond.methodLink RX0 58 yX0_combined ∈ lwg := tb3 96 rfl rfl
theorem ml_2_72 : Cond.methodLink RX2 72 yX8_neverDone ∈ lwg := tb5 52 rfl rfl
theorem ml_2_82 : Cond.methodLink RX2 82 yX4_fill ∈ lwg := tb5 56 rfl rfl
theorem ml_2_86 : Cond.methodLink RX2 86 yX8_crossedSet ∈ lwg := tb5 170 rfl rfl
theorem ml_2_89 : Cond.methodLink RX2 89 yX2_rowsOf ∈ lwg := tb5 93 rfl rfl
theorem ml_2_96 : Cond.methodLink RX2 96 yX4_bestSet ∈ lwg := tb5 94 rfl rfl
theorem ml_2_100 : Cond.methodLink RX2 100 yX4_trace ∈ lwg := tb5 95 rfl rfl
theorem ml_2_107 : Cond.methodLink RX2 107 yX5_washed ∈ lwg := tb5 182 rfl rfl
theorem ml_2_111 : Cond.methodLink RX2 111 yX7_allParts ∈ lwg := tb5 117 rfl rfl
theorem ml_2_114 : Cond.methodLink RX2 114 yX4_isBy ∈ lwg := tb5 121 rfl rfl
theorem ml_2_117 : Cond.methodLink RX2 117 yX2_beginSpans ∈ lwg := tb5 133 rfl rfl
theorem ml_2_124 : Cond.methodLink RX2 124 yX4_shareIn ∈ lwg := tb5 136 rfl rfl
theorem ml_2_127 : Cond.methodLink RX2 127 yJ7_fill_53178 ∈ lwg := tb3 170 rfl rfl
theorem ml_2_132 : Cond.methodLink RX2 132 yX2_worthLater ∈ lwg := tb5 149 rfl rfl
theorem ml_2_136 : Cond.methodLink RX2 136 yX10_copy ∈ lwg := tb5 153 rfl rfl
theorem ml_2_143 : Cond.methodLink RX2 143 yX2_spanOf ∈ lwg := tb5 204 rfl rfl
theorem ml_2_174 : Cond.methodLink RX2 174 yX7_layOut ∈ lwg := tb5 209 rfl rfl
theorem ml_2_178 : Cond.methodLink RX2 178 yX10_begin ∈ lwg := tb5 210 rfl rfl
theorem ml_3_47 : Cond.methodLink RX3 47 yX3_withLetter ∈ lwg := tb1 206 rfl rfl
theorem ml_3_51 : Cond.methodLink RX3 51 yX3_split ∈ lwg := tb3 236 rfl rfl
theorem ml_3_55 : Cond.methodLink RX3 55 yX6_clear ∈ lwg := tb4 78 rfl rfl
theorem ml_3_71 : Cond.methodLink RX3 71 yX3_takeTell ∈ lwg := tb4 79 rfl rfl
theorem ml_3_80 : Cond.methodLink RX3 80 yX3_isBlank ∈ lwg := tb4 0 rfl rfl
theorem ml_3_84 : Cond.methodLink RX3 84 yX3_isLetter ∈ lwg := tb4 3 rfl rfl
theorem ml_3_87 : Cond.methodLink RX3 87 yX3_takeLetters ∈ lwg := tb4 6 rfl rfl
theorem ml_3_91 : Cond.methodLink RX3 91 yX3_isDigit ∈ lwg := tb4 14 rfl rfl
theorem ml_3_94 : Cond.methodLink RX3 94 yX3_takeDigits ∈ lwg := tb4 17 rfl rfl
theorem ml_3_109 : Cond.methodLink RX3 109 yX3_kindOf ∈ lwg := tb4 10 rfl rfl
theorem ml_3_115 : Cond.methodLink RX3 115 yX3_takePart ∈ lwg := tb4 83 rfl rfl
theorem ml_3_118 : Cond.methodLink RX3 118 yX3_takeWorker ∈ lwg := tb4 107 rfl rfl
theorem ml_3_121 : Cond.methodLink RX3 121 yX3_takeLaw ∈ lwg := tb4 111 rfl rfl
theorem ml_3_125 : Cond.methodLink RX3 125 yX3_accept ∈ lwg := tb4 91 rfl rfl
theorem ml_3_128 : Cond.methodLink RX3 128 yX3_takeNumber ∈ lwg := tb4 103 rfl rfl
theorem ml_3_146 : Cond.methodLink RX3 146 yX3_fail ∈ lwg := tb4 87 rfl rfl
theorem ml_3_152 : Cond.methodLink RX3 152 yX3_takeName ∈ lwg := tb4 95 rfl rfl
theorem ml_3_179 : Cond.methodLink RX3 179 yX3_failMildly ∈ lwg := tb4 99 rfl rfl
theorem ml_3_187 : Cond.methodLink RX3 187 yX0_begin ∈ lwg := tb4 115 rfl rfl
theorem ml_3_192 : Cond.methodLink RX3 192 yX3_takeSum ∈ lwg := tb4 116 rfl rfl
theorem ml_3_195 : Cond.methodLink RX3 195 yX0_emit ∈ lwg := tb4 128 rfl rfl
theorem ml_3_198 : Cond.methodLink RX3 198 yX0_jumpHere ∈ lwg := tb4 129 rfl rfl
theorem ml_3_201 : Cond.methodLink RX3 201 yX3_takeProduct ∈ lwg := tb4 120 rfl rfl
theorem ml_3_204 : Cond.methodLink RX3 204 yX3_takeUnit ∈ lwg := tb4 124 rfl rfl
theorem ml_4_44 : Cond.methodLink RX4 44 yX4_measure ∈ lwg := tb5 61 rfl rfl
theorem ml_4_53 : Cond.methodLink RX4 53 yX4_endOf ∈ lwg := tb5 68 rfl rfl
theorem ml_4_56 : Cond.methodLink RX4 56 yX10_comesTo ∈ lwg := tb5 65 rfl rfl
theorem ml_4_76 : Cond.methodLink RX4 76 yX4_endFrom ∈ lwg := tb5 72 rfl rfl
theorem ml_4_82 : Cond.methodLink RX4 82 yX5_startFrom ∈ lwg := tb5 76 rfl rfl
theorem ml_4_86 : Cond.methodLink RX4 86 yJ6_bitCount_0f7a4 ∈ lwg := tb5 99 rfl rfl
theorem ml_4_91 : Cond.methodLink RX4 91 yX4_firstLast ∈ lwg := tb5 105 rfl rfl
theorem ml_5_25 : Cond.methodLink RX5 25 yX5_freeFor ∈ lwg := tb4 204 rfl rfl
theorem ml_6_62 : Cond.methodLink RX6 62 yX0_clear ∈ lwg := tb3 60 rfl rfl
theorem ml_7_45 : Cond.methodLink RX7 45 yX0_tide ∈ lwg := tb3 84 rfl rfl
theorem ml_7_50 : Cond.methodLink RX7 50 yX0_sun ∈ lwg := tb3 108 rfl rfl
theorem ml_7_73 : Cond.methodLink RX7 73 yX7_layOut ∈ lwg := tb3 112 rfl rfl
theorem ml_7_80 : Cond.methodLink RX7 80 yX7_settleErrors ∈ lwg := tb3 124 rfl rfl
theorem ml_7_83 : Cond.methodLink RX7 83 yX0_high ∈ lwg := tb3 116 rfl rfl
theorem ml_7_95 : Cond.methodLink RX7 95 yX5_settle ∈ lwg := tb3 120 rfl rfl
theorem ml_7_99 : Cond.methodLink RX7 99 yX5_freeFor ∈ lwg := tb5 191 rfl rfl
theorem ml_7_102 : Cond.methodLink RX7 102 yX0_loose ∈ lwg := tb5 232 rfl rfl
theorem ml_7_106 : Cond.methodLink RX7 106 yX6_farFromPeg ∈ lwg := tb3 128 rfl rfl
theorem ml_7_109 : Cond.methodLink RX7 109 yX0_slip ∈ lwg := tb3 138 rfl rfl
theorem ml_7_112 : Cond.methodLink RX7 112 yX7_leastError ∈ lwg := tb3 142 rfl rfl
theorem ml_7_115 : Cond.methodLink RX7 115 yX7_measureFrom ∈ lwg := tb3 146 rfl rfl
theorem ml_7_119 : Cond.methodLink RX7 119 yX6_farBetween ∈ lwg := tb3 150 rfl rfl
theorem ml_8_41 : Cond.methodLink RX8 41 yX10_begin ∈ lwg := tb3 158 rfl rfl
theorem ml_8_49 : Cond.methodLink RX8 49 yX10_copy ∈ lwg := tb6 61 rfl rfl
theorem ml_8_65 : Cond.methodLink RX8 65 yX10_comesTo ∈ lwg := tb4 192 rfl rfl
theorem ml_8_69 : Cond.methodLink RX8 69 yX5_washed ∈ lwg := tb4 200 rfl rfl
theorem ml_8_75 : Cond.methodLink RX8 75 yX5_startFrom ∈ lwg := tb4 205 rfl rfl
theorem ml_8_82 : Cond.methodLink RX8 82 yX8_wouldBeDone ∈ lwg := tb4 188 rfl rfl
theorem ml_8_86 : Cond.methodLink RX8 86 yX10_goTo ∈ lwg := tb4 206 rfl rfl
theorem ml_8_102 : Cond.methodLink RX8 102 yX8_addAct ∈ lwg := tb4 210 rfl rfl
theorem ml_8_115 : Cond.methodLink RX8 115 yX8_visibleFrom ∈ lwg := tb5 20 rfl rfl
theorem ml_8_121 : Cond.methodLink RX8 121 yX8_isVisible ∈ lwg := tb5 16 rfl rfl
theorem ml_9_24 : Cond.methodLink RX9 24 yX8_init ∈ lwg := tb3 38 rfl rfl
theorem ml_9_44 : Cond.methodLink RX9 44 yX9_replay ∈ lwg := tb6 36 rfl rfl
theorem ml_9_48 : Cond.methodLink RX9 48 yX9_agrees ∈ lwg := tb6 45 rfl rfl
theorem ml_9_52 : Cond.methodLink RX9 52 yX8_begin ∈ lwg := tb6 40 rfl rfl
theorem ml_9_83 : Cond.methodLink RX9 83 yX8_rake ∈ lwg := tb6 42 rfl rfl
theorem ml_9_87 : Cond.methodLink RX9 87 yX8_strike ∈ lwg := tb6 43 rfl rfl
theorem ml_9_91 : Cond.methodLink RX9 91 yX8_repair ∈ lwg := tb6 44 rfl rfl
theorem ml_9_94 : Cond.methodLink RX9 94 yX8_isVisible ∈ lwg := tb6 49 rfl rfl
theorem ml_12_197 : Cond.methodLink RX12 197 yX12_plain ∈ lwg := tb6 86 rfl rfl
theorem ml_12_201 : Cond.methodLink RX12 201 yX12_word ∈ lwg := tb6 90 rfl rfl
theorem ml_12_205 : Cond.methodLink RX12 205 yX12_layOut ∈ lwg := tb6 97 rfl rfl
theorem ml_12_208 : Cond.methodLink RX12 208 yX12_begins ∈ lwg := tb6 124 rfl rfl
theorem ml_12_211 : Cond.methodLink RX12 211 yX12_keepsRow ∈ lwg := tb6 128 rfl rfl
theorem ml_12_217 : Cond.methodLink RX12 217 yX12_put ∈ lwg := tb7 154 rfl rfl
theorem ml_12_225 : Cond.methodLink RX12 225 yX12_appends ∈ lwg := tb6 93 rfl rfl
theorem ml_12_232 : Cond.methodLink RX12 232 yX12_byteAt ∈ lwg := tb7 170 rfl rfl
theorem ml_12_236 : Cond.methodLink RX12 236 yX12_token ∈ lwg := tb7 174 rfl rfl
theorem ml_12_240 : Cond.methodLink RX12 240 yX12_isLetter ∈ lwg := tb7 178 rfl rfl
theorem ml_12_244 : Cond.methodLink RX12 244 yX12_isDigit ∈ lwg := tb7 181 rfl rfl
theorem ml_12_247 : Cond.methodLink RX12 247 yX12_sign ∈ lwg := tb7 184 rfl rfl
theorem ml_12_266 : Cond.methodLink RX12 266 yX12_fail ∈ lwg := tb7 200 rfl rfl
theorem ml_12_269 : Cond.methodLink RX12 269 yX12_is ∈ lwg := tb7 188 rfl rfl
theorem ml_12_272 : Cond.methodLink RX12 272 yX12_goesOn ∈ lwg := tb7 204 rfl rfl
theorem ml_12_275 : Cond.methodLink RX12 275 yX12_cut ∈ lwg := tb7 166 rfl rfl
theorem ml_12_296 : Cond.methodLink RX12 296 yX12_tellOne ∈ lwg := tb7 192 rfl rfl
theorem ml_12_305 : Cond.methodLink RX12 305 yX12_roomFor ∈ lwg := tb7 196 rfl rfl
theorem ml_12_309 : Cond.methodLink RX12 309 yX12_tellPart ∈ lwg := tb7 208 rfl rfl
theorem ml_12_312 : Cond.methodLink RX12 312 yX12_tellWorker ∈ lwg := tb7 228 rfl rfl
theorem ml_12_315 : Cond.methodLink RX12 315 yX12_bounded ∈ lwg := tb7 224 rfl rfl
theorem ml_12_319 : Cond.methodLink RX12 319 yX12_must ∈ lwg := tb7 216 rfl rfl
theorem ml_12_322 : Cond.methodLink RX12 322 yX12_tellLaw ∈ lwg := tb7 232 rfl rfl
theorem ml_12_325 : Cond.methodLink RX12 325 yX12_wrong ∈ lwg := tb7 220 rfl rfl
theorem ml_12_328 : Cond.methodLink RX12 328 yX12_named ∈ lwg := tb7 212 rfl rfl
theorem ml_12_332 : Cond.methodLink RX12 332 yX12_expression ∈ lwg := tb7 236 rfl rfl
theorem ml_12_335 : Cond.methodLink RX12 335 yX12_term ∈ lwg := tb8 12 rfl rfl
theorem ml_12_341 : Cond.methodLink RX12 341 yX12_emit ∈ lwg := tb8 4 rfl rfl
theorem ml_12_344 : Cond.methodLink RX12 344 yX12_unit ∈ lwg := tb8 0 rfl rfl
theorem ml_12_347 : Cond.methodLink RX12 347 yX12_comesOut ∈ lwg := tb8 8 rfl rfl
theorem ml_12_355 : Cond.methodLink RX12 355 yX12_in ∈ lwg := tb6 121 rfl rfl
theorem ml_12_359 : Cond.methodLink RX12 359 yX12_termOf ∈ lwg := tb6 109 rfl rfl
theorem ml_12_362 : Cond.methodLink RX12 362 yX12_setsOf ∈ lwg := tb6 101 rfl rfl
theorem ml_12_366 : Cond.methodLink RX12 366 yX12_tells ∈ lwg := tb6 105 rfl rfl
theorem ml_12_370 : Cond.methodLink RX12 370 yX12_laysPart ∈ lwg := tb6 113 rfl rfl
theorem ml_12_373 : Cond.methodLink RX12 373 yX12_isHolding ∈ lwg := tb6 117 rfl rfl
theorem ml_12_377 : Cond.methodLink RX12 377 yX12_apart ∈ lwg := tb8 87 rfl rfl
theorem ml_12_380 : Cond.methodLink RX12 380 yX12_wayOf ∈ lwg := tb8 83 rfl rfl
theorem ml_12_384 : Cond.methodLink RX12 384 yX12_comesAt ∈ lwg := tb8 79 rfl rfl
theorem ml_12_387 : Cond.methodLink RX12 387 yX12_isCovered ∈ lwg := tb8 90 rfl rfl
theorem ml_12_390 : Cond.methodLink RX12 390 yX12_firstFrom ∈ lwg := tb8 55 rfl rfl
theorem ml_12_393 : Cond.methodLink RX12 393 yX12_goesThere ∈ lwg := tb8 94 rfl rfl
theorem ml_12_397 : Cond.methodLink RX12 397 yX12_isSeen ∈ lwg := tb8 126 rfl rfl
theorem ml_12_400 : Cond.methodLink RX12 400 yX12_isPart ∈ lwg := tb8 24 rfl rfl
theorem ml_12_403 : Cond.methodLink RX12 403 yX12_isWorker ∈ lwg := tb8 32 rfl rfl
theorem ml_12_406 : Cond.methodLink RX12 406 yX12_isMinute ∈ lwg := tb8 40 rfl rfl
theorem ml_12_409 : Cond.methodLink RX12 409 yX12_copies ∈ lwg := tb8 71 rfl rfl
theorem ml_12_412 : Cond.methodLink RX12 412 yX12_sends ∈ lwg := tb8 75 rfl rfl
theorem ml_12_415 : Cond.methodLink RX12 415 yX12_keeps ∈ lwg := tb8 98 rfl rfl
theorem ml_12_418 : Cond.methodLink RX12 418 yX12_crosses ∈ lwg := tb8 106 rfl rfl
theorem ml_12_421 : Cond.methodLink RX12 421 yX12_mendsOne ∈ lwg := tb8 114 rfl rfl
theorem ml_12_424 : Cond.methodLink RX12 424 yX12_photoOf ∈ lwg := tb8 134 rfl rfl
theorem ml_12_443 : Cond.methodLink RX12 443 yX12_stepTo ∈ lwg := tb8 173 rfl rfl
theorem ml_12_446 : Cond.methodLink RX12 446 yX12_readyBehind ∈ lwg := tb8 169 rfl rfl
theorem ml_12_449 : Cond.methodLink RX12 449 yX12_leastReady ∈ lwg := tb8 182 rfl rfl
theorem ml_12_452 : Cond.methodLink RX12 452 yX12_fillsRows ∈ lwg := tb8 165 rfl rfl
theorem ml_12_455 : Cond.methodLink RX12 455 yX12_canBy ∈ lwg := tb8 178 rfl rfl
theorem ml_12_458 : Cond.methodLink RX12 458 yX12_worthBy ∈ lwg := tb8 186 rfl rfl
theorem ml_12_461 : Cond.methodLink RX12 461 yX12_startsAs ∈ lwg := tb8 153 rfl rfl
theorem ml_12_464 : Cond.methodLink RX12 464 yX12_neverDone ∈ lwg := tb8 157 rfl rfl
theorem ml_12_467 : Cond.methodLink RX12 467 yX12_bestRow ∈ lwg := tb8 161 rfl rfl
theorem ml_12_470 : Cond.methodLink RX12 470 yX12_isBy ∈ lwg := tb8 146 rfl rfl
theorem ml_12_473 : Cond.methodLink RX12 473 yX12_planNow ∈ lwg := tb8 149 rfl rfl
theorem ml_12_476 : Cond.methodLink RX12 476 yX12_bits ∈ lwg := tb8 198 rfl rfl
theorem ml_12_482 : Cond.methodLink RX12 482 yX12_fillsPlan ∈ lwg := tb8 194 rfl rfl
theorem ml_12_485 : Cond.methodLink RX12 485 yX12_crossedNow ∈ lwg := tb8 205 rfl rfl
theorem ml_12_488 : Cond.methodLink RX12 488 yX12_fillsCan ∈ lwg := tb8 225 rfl rfl
theorem ml_12_491 : Cond.methodLink RX12 491 yX12_sharesAll ∈ lwg := tb8 233 rfl rfl
theorem ml_12_494 : Cond.methodLink RX12 494 yX12_isLarge ∈ lwg := tb9 1 rfl rfl
theorem ml_12_498 : Cond.methodLink RX12 498 yX12_mixed ∈ lwg := tb9 20 rfl rfl
theorem ml_12_501 : Cond.methodLink RX12 501 yX12_lotOf ∈ lwg := tb9 17 rfl rfl
theorem ml_12_504 : Cond.methodLink RX12 504 yX12_isRunOver ∈ lwg := tb9 13 rfl rfl
theorem ml_12_507 : Cond.methodLink RX12 507 yX12_photoBy ∈ lwg := tb9 9 rfl rfl
theorem ml_12_513 : Cond.methodLink RX12 513 yX12_errorFrom ∈ lwg := tb9 36 rfl rfl
theorem ml_12_516 : Cond.methodLink RX12 516 yX12_settles ∈ lwg := tb9 32 rfl rfl
theorem ml_12_519 : Cond.methodLink RX12 519 yX12_isSo ∈ lwg := tb9 56 rfl rfl
theorem ce_Laws_init : CEi yX0_init cX0_init 1 0 := ⟨tb1 47 rfl rfl, tb1 46 rfl rfl, rfl, tb1 4 rfl rfl, ⟨by decide +kernel, by decide +kernel, by decide +kernel⟩⟩
theorem ce_Laws_clear : CEv yX0_clear cX0_clear 1 none 0 0 := ⟨rfl, tb3 63 rfl rfl, tb3 61 rfl rfl, tb3 62 rfl rfl, tb1 4 rfl rfl, ⟨by decide +kernel, by decide +kernel, by decide +kernel⟩⟩
theorem ce_Laws_tellOne : CEv yX0_tellOne cX0_tellOne 3 none 0 2 := ⟨rfl, tb3 71 rfl rfl, tb3 70 rfl rfl, sl_in (n := 5) 0 (by decide +kernel), tb1 4 rfl rfl, ⟨by decide +kernel, by decide +kernel, by decide +kernel⟩⟩
theorem ce_Laws_begin : CEv yX0_begin cX0_begin 2 none 0 1 := ⟨rfl, tb3 67 rfl rfl, tb3 65 rfl rfl, tb3 66 rfl rfl, tb1 4 rfl rfl, ⟨by decide +kernel, by decide +kernel, by decide +kernel⟩⟩
theorem ce_Laws_emit : CEv yX0_emit cX0_emit 4 (some (.int)) 0 2 := ⟨rfl, tb3 75 rfl rfl, tb3 73 rfl rfl, tb3 74 rfl rfl, tb1 4 rfl rfl, ⟨by decide +kernel, by decide +kernel, by decide +kernel⟩⟩
theorem ce_Laws_jumpHere : CEv yX0_jumpHere cX0_jumpHere 2 none 0 1 := ⟨rfl, tb4 132 rfl rfl, tb4 130 rfl rfl, tb4 131 rfl rfl, tb1 4 rfl rfl, ⟨by decide +kernel, by decide +kernel, by decide +kernel⟩⟩
theorem ce_Laws_high : CEv yX0_high cX0_high 3 (some (.int)) 0 2 := ⟨rfl, tb3 119 rfl rfl, tb3 117 rfl rfl, tb3 118 rfl rfl, tb1 4 rfl rfl, ⟨by decide +kernel, by decide +kernel, by decide +kernel⟩⟩
theorem ce_Laws_tide : CEv yX0_tide cX0_tide 2 (some (.int)) 0 1 := ⟨rfl, tb3 87 rfl rfl, tb3 85 rfl rfl, tb3 86 rfl rfl, tb1 4 rfl rfl, ⟨by decide +kernel, by decide +kernel, by decide +kernel⟩⟩
theorem ce_Laws_sun : CEv yX0_sun cX0_sun 2 (some (.int)) 0 1 := ⟨rfl, tb3 111 rfl rfl, tb3 109 rfl rfl, tb3 110 rfl rfl, tb1 4 rfl rfl, ⟨by decide +kernel, by decide +kernel, by decide +kernel⟩⟩
theorem ce_Laws_slip : CEv yX0_slip cX0_slip 3 (some (.int)) 0 2 := ⟨rfl, tb3 141 rfl rfl, tb3 139 rfl rfl, tb3 140 rfl rfl, tb1 4 rfl rfl, ⟨by decide +kernel, by decide +kernel, by decide +kernel⟩⟩
theorem ce_Laws_loose : CEv yX0_loose cX0_loose 4 (some (.int)) 0 3 := ⟨rfl, tb5 235 rfl rfl, tb5 233 rfl rfl, tb5 234 rfl rfl, tb1 4 rfl rfl, ⟨by decide +kernel, by decide +kernel, by decide +kernel⟩⟩
theorem ce_Laws_within : CEs yX0_within cX0_within 3 (some (.int)) 3 := ⟨tb3 101 rfl rfl, tb3 100 rfl rfl, tb1 4 rfl rfl, ⟨by decide +kernel, by decide +kernel, by decide +kernel⟩⟩
theorem ce_Laws_setVariables : CEv yX0_setVariables cX0_setVariables 6 none 0 5 := ⟨rfl, tb3 91 rfl rfl, tb3 90 rfl rfl, sl_in (n := 5) 2 (by decide +kernel), tb1 4 rfl rfl, ⟨by decide +kernel, by decide +kernel, by decide +kernel⟩⟩
theorem ce_Laws_value : CEv yX0_value cX0_value 9 (some (.int)) 0 1 := ⟨rfl, tb3 95 rfl rfl, tb3 94 rfl rfl, sl_in (n := 5) 3 (by decide +kernel), tb1 4 rfl rfl, ⟨by decide +kernel, by decide +kernel, by decide +kernel⟩⟩
theorem ce_Laws_combined : CEs yX0_combined cX0_combined 3 (some (.int)) 3 := ⟨tb3 98 rfl rfl, tb3 97 rfl rfl, tb1 4 rfl rfl, ⟨by decide +kernel, by decide +kernel, by decide +kernel⟩⟩
theorem ce_Past_init : CEi yX1_init cX1_init 1 0 := ⟨tb2 183 rfl rfl, tb2 182 rfl rfl, rfl, tb1 13 rfl rfl, ⟨by decide +kernel, by decide +kernel, by decide +kernel⟩⟩
theorem ce_Past_note : CEv yX1_note cX1_note 6 none 1 3 := ⟨rfl, tb4 183 rfl rfl, tb4 181 rfl rfl, tb4 182 rfl rfl, tb1 13 rfl rfl, ⟨by decide +kernel, by decide +kernel, by decide +kernel⟩⟩
theorem ce_Past_keep : CEv yX1_keep cX1_keep 1 none 1 0 := ⟨rfl, tb4 221 rfl rfl, tb4 219 rfl rfl, tb4 220 rfl rfl, tb1 13 rfl rfl, ⟨by decide +kernel, by decide +kernel, by decide +kernel⟩⟩
theorem ce_Past_takeBack : CEv yX1_takeBack cX1_takeBack 5 (some (.boolean)) 1 1 := ⟨rfl, tb5 7 rfl rfl, tb5 5 rfl rfl, tb5 6 rfl rfl, tb1 13 rfl rfl, ⟨by decide +kernel, by decide +kernel, by decide +kernel⟩⟩
theorem ce_Plan_init : CEi yX2_init cX2_init 2 0 := ⟨tb2 201 rfl rfl, tb2 200 rfl rfl, rfl, tb1 14 rfl rfl, ⟨by decide +kernel, by decide +kernel, by decide +kernel⟩⟩
theorem ce_Plan_forgetRows : CEv yX2_forgetRows cX2_forgetRows 2 none 2 0 := ⟨rfl, tb3 165 rfl rfl, tb3 163 rfl rfl, tb3 164 rfl rfl, tb1 14 rfl rfl, ⟨by decide +kernel, by decide +kernel, by decide +kernel⟩⟩
theorem ce_Plan_rowsOf : CEv yX2_rowsOf cX2_rowsOf 4 (some (.object "TideRakes$Rows")) 2 3 := ⟨rfl, tb5 51 rfl rfl, tb5 49 rfl rfl, tb5 50 rfl rfl, tb1 14 rfl rfl, ⟨by decide +kernel, by decide +kernel, by decide +kernel⟩⟩
theorem ce_Plan_mendingRows : CEv yX2_mendingRows cX2_mendingRows 4 (some (.object "TideRakes$Rows")) 2 3 := ⟨rfl, tb5 169 rfl rfl, tb5 167 rfl rfl, tb5 168 rfl rfl, tb1 14 rfl rfl, ⟨by decide +kernel, by decide +kernel, by decide +kernel⟩⟩
theorem ce_Plan_trace : CEv yX2_trace cX2_trace 6 (some (.int)) 2 4 := ⟨rfl, tb5 92 rfl rfl, tb5 90 rfl rfl, tb5 91 rfl rfl, tb1 14 rfl rfl, ⟨by decide +kernel, by decide +kernel, by decide +kernel⟩⟩
theorem ce_Plan_visibleAfter : CEv yX2_visibleAfter cX2_visibleAfter 13 (some (.int)) 2 5 := ⟨rfl, tb5 181 rfl rfl, tb5 179 rfl rfl, tb5 180 rfl rfl, tb1 14 rfl rfl, ⟨by decide +kernel, by decide +kernel, by decide +kernel⟩⟩
theorem ce_Plan_bestPair : CEv yX2_bestPair cX2_bestPair 13 (some (.int)) 2 4 := ⟨rfl, tb5 116 rfl rfl, tb5 114 rfl rfl, tb5 115 rfl rfl, tb1 14 rfl rfl, ⟨by decide +kernel, by decide +kernel, by decide +kernel⟩⟩
theorem ce_Plan_sharedSet : CEv yX2_sharedSet cX2_sharedSet 6 (some (.int)) 2 3 := ⟨rfl, tb5 132 rfl rfl, tb5 130 rfl rfl, tb5 131 rfl rfl, tb1 14 rfl rfl, ⟨by decide +kernel, by decide +kernel, by decide +kernel⟩⟩
theorem ce_Plan_beginSpans : CEs yX2_beginSpans cX2_beginSpans 1 none 1 := ⟨tb5 135 rfl rfl, tb5 134 rfl rfl, tb1 14 rfl rfl, ⟨by decide +kernel, by decide +kernel, by decide +kernel⟩⟩
theorem ce_Plan_slack : CEv yX2_slack cX2_slack 11 (some (.int)) 2 4 := ⟨rfl, tb5 148 rfl rfl, tb5 146 rfl rfl, tb5 147 rfl rfl, tb1 14 rfl rfl, ⟨by decide +kernel, by decide +kernel, by decide +kernel⟩⟩
theorem ce_Plan_worthLater : CEv yX2_worthLater cX2_worthLater 6 (some (.int)) 2 5 := ⟨rfl, tb5 152 rfl rfl, tb5 151 rfl rfl, sl_in (n := 10) 34 (by decide +kernel), tb1 14 rfl rfl, ⟨by decide +kernel, by decide +kernel, by decide +kernel⟩⟩
theorem ce_Plan_forgetSizes : CEv yX2_forgetSizes cX2_forgetSizes 1 none 2 0 := ⟨rfl, tb3 169 rfl rfl, tb3 167 rfl rfl, tb3 168 rfl rfl, tb1 14 rfl rfl, ⟨by decide +kernel, by decide +kernel, by decide +kernel⟩⟩
theorem ce_Plan_largest : CEv yX2_largest cX2_largest 4 (some (.int)) 2 2 := ⟨rfl, tb5 203 rfl rfl, tb5 201 rfl rfl, tb5 202 rfl rfl, tb1 14 rfl rfl, ⟨by decide +kernel, by decide +kernel, by decide +kernel⟩⟩
theorem ce_Plan_spanOf : CEv yX2_spanOf cX2_spanOf 6 (some (.int)) 2 2 := ⟨rfl, tb5 207 rfl rfl, tb5 206 rfl rfl, sl_in (n := 10) 36 (by decide +kernel), tb1 14 rfl rfl, ⟨by decide +kernel, by decide +kernel, by decide +kernel⟩⟩
theorem ce_Read_init : CEi yX3_init cX3_init 4 0 := ⟨tb1 35 rfl rfl, tb1 34 rfl rfl, rfl, tb1 2 rfl rfl, ⟨by decide +kernel, by decide +kernel, by decide +kernel⟩⟩
theorem ce_Read_readText : CEv yX3_readText cX3_readText 4 (some (.int)) 3 2 := ⟨rfl, tb3 235 rfl rfl, tb3 233 rfl rfl, tb3 234 rfl rfl, tb1 2 rfl rfl, ⟨by decide +kernel, by decide +kernel, by decide +kernel⟩⟩
theorem ce_Read_split : CEv yX3_split cX3_split 7 none 3 2 := ⟨rfl, tb3 239 rfl rfl, tb3 238 rfl rfl, sl_in (n := 12) 8 (by decide +kernel), tb1 2 rfl rfl, ⟨by decide +kernel, by decide +kernel, by decide +kernel⟩⟩
theorem ce_Read_takeLetters : CEv yX3_takeLetters cX3_takeLetters 8 (some (.int)) 3 4 := ⟨rfl, tb4 9 rfl rfl, tb4 8 rfl rfl, sl_in (n := 12) 9 (by decide +kernel), tb1 2 rfl rfl, ⟨by decide +kernel, by decide +kernel, by decide +kernel⟩⟩
theorem ce_Read_kindOf : CEv yX3_kindOf cX3_kindOf 4 (some (.int)) 3 1 := ⟨rfl, tb4 13 rfl rfl, tb4 12 rfl rfl, sl_in (n := 12) 10 (by decide +kernel), tb1 2 rfl rfl, ⟨by decide +kernel, by decide +kernel, by decide +kernel⟩⟩
theorem ce_Read_takeDigits : CEv yX3_takeDigits cX3_takeDigits 7 (some (.int)) 3 4 := ⟨rfl, tb4 20 rfl rfl, tb4 19 rfl rfl, sl_in (n := 12) 11 (by decide +kernel), tb1 2 rfl rfl, ⟨by decide +kernel, by decide +kernel, by decide +kernel⟩⟩
theorem ce_Read_withLetter : CEs yX3_withLetter cX3_withLetter 3 (some (.long)) 2 := ⟨tb1 208 rfl rfl, tb1 207 rfl rfl, tb1 2 rfl rfl, ⟨by decide +kernel, by decide +kernel, by decide +kernel⟩⟩
theorem ce_Read_isBlank : CEs yX3_isBlank cX3_isBlank 1 (some (.boolean)) 1 := ⟨tb4 2 rfl rfl, tb4 1 rfl rfl, tb1 2 rfl rfl, ⟨by decide +kernel, by decide +kernel, by decide +kernel⟩⟩
theorem ce_Read_isLetter : CEs yX3_isLetter cX3_isLetter 1 (some (.boolean)) 1 := ⟨tb4 5 rfl rfl, tb4 4 rfl rfl, tb1 2 rfl rfl, ⟨by decide +kernel, by decide +kernel, by decide +kernel⟩⟩
theorem ce_Read_isDigit : CEs yX3_isDigit cX3_isDigit 1 (some (.boolean)) 1 := ⟨tb4 16 rfl rfl, tb4 15 rfl rfl, tb1 2 rfl rfl, ⟨by decide +kernel, by decide +kernel, by decide +kernel⟩⟩
theorem ce_Read_takeTell : CEv yX3_takeTell cX3_takeTell 2 none 3 0 := ⟨rfl, tb4 82 rfl rfl, tb4 81 rfl rfl, sl_in (n := 12) 12 (by decide +kernel), tb1 2 rfl rfl, ⟨by decide +kernel, by decide +kernel, by decide +kernel⟩⟩
theorem ce_Read_takePart : CEv yX3_takePart cX3_takePart 2 none 3 0 := ⟨rfl, tb4 86 rfl rfl, tb4 85 rfl rfl, sl_in (n := 12) 13 (by decide +kernel), tb1 2 rfl rfl, ⟨by decide +kernel, by decide +kernel, by decide +kernel⟩⟩
theorem ce_Read_takeWorker : CEv yX3_takeWorker cX3_takeWorker 2 none 3 0 := ⟨rfl, tb4 110 rfl rfl, tb4 109 rfl rfl, sl_in (n := 12) 19 (by decide +kernel), tb1 2 rfl rfl, ⟨by decide +kernel, by decide +kernel, by decide +kernel⟩⟩
theorem ce_Read_takeName : CEv yX3_takeName cX3_takeName 5 none 3 0 := ⟨rfl, tb4 98 rfl rfl, tb4 97 rfl rfl, sl_in (n := 12) 16 (by decide +kernel), tb1 2 rfl rfl, ⟨by decide +kernel, by decide +kernel, by decide +kernel⟩⟩
theorem ce_Read_takeNumber : CEv yX3_takeNumber cX3_takeNumber 5 (some (.int)) 3 2 := ⟨rfl, tb4 106 rfl rfl, tb4 105 rfl rfl, sl_in (n := 12) 18 (by decide +kernel), tb1 2 rfl rfl, ⟨by decide +kernel, by decide +kernel, by decide +kernel⟩⟩
theorem ce_Read_takeLaw : CEv yX3_takeLaw cX3_takeLaw 5 none 3 1 := ⟨rfl, tb4 114 rfl rfl, tb4 113 rfl rfl, sl_in (n := 12) 20 (by decide +kernel), tb1 2 rfl rfl, ⟨by decide +kernel, by decide +kernel, by decide +kernel⟩⟩
theorem ce_Read_takeSum : CEv yX3_takeSum cX3_takeSum 4 none 3 1 := ⟨rfl, tb4 119 rfl rfl, tb4 118 rfl rfl, sl_in (n := 12) 21 (by decide +kernel), tb1 2 rfl rfl, ⟨by decide +kernel, by decide +kernel, by decide +kernel⟩⟩
theorem ce_Read_takeProduct : CEv yX3_takeProduct cX3_takeProduct 4 none 3 1 := ⟨rfl, tb4 123 rfl rfl, tb4 122 rfl rfl, sl_in (n := 12) 22 (by decide +kernel), tb1 2 rfl rfl, ⟨by decide +kernel, by decide +kernel, by decide +kernel⟩⟩
theorem ce_Read_takeUnit : CEv yX3_takeUnit cX3_takeUnit 3 none 3 1 := ⟨rfl, tb4 127 rfl rfl, tb4 126 rfl rfl, sl_in (n := 12) 23 (by decide +kernel), tb1 2 rfl rfl, ⟨by decide +kernel, by decide +kernel, by decide +kernel⟩⟩
theorem ce_Read_accept : CEv yX3_accept cX3_accept 2 (some (.boolean)) 3 1 := ⟨rfl, tb4 94 rfl rfl, tb4 93 rfl rfl, sl_in (n := 12) 15 (by decide +kernel), tb1 2 rfl rfl, ⟨by decide +kernel, by decide +kernel, by decide +kernel⟩⟩
theorem ce_Read_fail : CEv yX3_fail cX3_fail 2 none 3 1 := ⟨rfl, tb4 90 rfl rfl, tb4 89 rfl rfl, sl_in (n := 12) 14 (by decide +kernel), tb1 2 rfl rfl, ⟨by decide +kernel, by decide +kernel, by decide +kernel⟩⟩
theorem ce_Read_failMildly : CEv yX3_failMildly cX3_failMildly 3 none 3 2 := ⟨rfl, tb4 102 rfl rfl, tb4 101 rfl rfl, sl_in (n := 12) 17 (by decide +kernel), tb1 2 rfl rfl, ⟨by decide +kernel, by decide +kernel, by decide +kernel⟩⟩
theorem ce_Rows_init : CEi yX4_init cX4_init 1 0 := ⟨tb2 208 rfl rfl, tb2 207 rfl rfl, rfl, tb1 15 rfl rfl, ⟨by decide +kernel, by decide +kernel, by decide +kernel⟩⟩
theorem ce_Rows_fill : CEv yX4_fill cX4_fill 10 none 4 5 := ⟨rfl, tb5 59 rfl rfl, tb5 57 rfl rfl, tb5 58 rfl rfl, tb1 15 rfl rfl, ⟨by decide +kernel, by decide +kernel, by decide +kernel⟩⟩
theorem ce_Rows_measure : CEv yX4_measure cX4_measure 6 none 4 1 := ⟨rfl, tb5 64 rfl rfl, tb5 63 rfl rfl, sl_in (n := 7) 29 (by decide +kernel), tb1 15 rfl rfl, ⟨by decide +kernel, by decide +kernel, by decide +kernel⟩⟩
theorem ce_Rows_endOf : CEv yX4_endOf cX4_endOf 5 (some (.int)) 4 2 := ⟨rfl, tb5 71 rfl rfl, tb5 70 rfl rfl, sl_in (n := 7) 30 (by decide +kernel), tb1 15 rfl rfl, ⟨by decide +kernel, by decide +kernel, by decide +kernel⟩⟩
theorem ce_Rows_endFrom : CEv yX4_endFrom cX4_endFrom 5 (some (.int)) 4 2 := ⟨rfl, tb5 75 rfl rfl, tb5 74 rfl rfl, sl_in (n := 7) 31 (by decide +kernel), tb1 15 rfl rfl, ⟨by decide +kernel, by decide +kernel, by decide +kernel⟩⟩
theorem ce_Rows_bestSet : CEv yX4_bestSet cX4_bestSet 5 (some (.int)) 4 2 := ⟨rfl, tb5 84 rfl rfl, tb5 82 rfl rfl, tb5 83 rfl rfl, tb1 15 rfl rfl, ⟨by decide +kernel, by decide +kernel, by decide +kernel⟩⟩
theorem ce_Rows_isBy : CEv yX4_isBy cX4_isBy 3 (some (.boolean)) 4 2 := ⟨rfl, tb5 124 rfl rfl, tb5 122 rfl rfl, tb5 123 rfl rfl, tb1 15 rfl rfl, ⟨by decide +kernel, by decide +kernel, by decide +kernel⟩⟩
theorem ce_Rows_trace : CEv yX4_trace cX4_trace 9 (some (.int)) 4 2 := ⟨rfl, tb5 98 rfl rfl, tb5 96 rfl rfl, tb5 97 rfl rfl, tb1 15 rfl rfl, ⟨by decide +kernel, by decide +kernel, by decide +kernel⟩⟩
theorem ce_Rows_shareIn : CEv yX4_shareIn cX4_shareIn 5 none 4 1 := ⟨rfl, tb5 139 rfl rfl, tb5 137 rfl rfl, tb5 138 rfl rfl, tb1 15 rfl rfl, ⟨by decide +kernel, by decide +kernel, by decide +kernel⟩⟩
theorem ce_Rows_firstLast : CEv yX4_firstLast cX4_firstLast 6 (some (.int)) 4 3 := ⟨rfl, tb5 108 rfl rfl, tb5 107 rfl rfl, sl_in (n := 7) 33 (by decide +kernel), tb1 15 rfl rfl, ⟨by decide +kernel, by decide +kernel, by decide +kernel⟩⟩
theorem ce_Sand_init : CEi yX5_init cX5_init 1 0 := ⟨tb2 22 rfl rfl, tb2 21 rfl rfl, rfl, tb1 10 rfl rfl, ⟨by decide +kernel, by decide +kernel, by decide +kernel⟩⟩
theorem ce_Sand_settle : CEv yX5_settle cX5_settle 9 none 5 3 := ⟨rfl, tb3 123 rfl rfl, tb3 121 rfl rfl, tb3 122 rfl rfl, tb1 10 rfl rfl, ⟨by decide +kernel, by decide +kernel, by decide +kernel⟩⟩
theorem ce_Sand_freeFor : CEv yX5_freeFor cX5_freeFor 2 (some (.int)) 5 1 := ⟨rfl, tb4 167 rfl rfl, tb4 165 rfl rfl, tb4 166 rfl rfl, tb1 10 rfl rfl, ⟨by decide +kernel, by decide +kernel, by decide +kernel⟩⟩
theorem ce_Sand_startFrom : CEv yX5_startFrom cX5_startFrom 2 (some (.int)) 5 1 := ⟨rfl, tb4 175 rfl rfl, tb4 173 rfl rfl, tb4 174 rfl rfl, tb1 10 rfl rfl, ⟨by decide +kernel, by decide +kernel, by decide +kernel⟩⟩
theorem ce_Sand_washed : CEv yX5_washed cX5_washed 3 (some (.boolean)) 5 2 := ⟨rfl, tb4 203 rfl rfl, tb4 201 rfl rfl, tb4 202 rfl rfl, tb1 10 rfl rfl, ⟨by decide +kernel, by decide +kernel, by decide +kernel⟩⟩
theorem ce_Scri_init : CEi yX6_init cX6_init 1 0 := ⟨tb1 41 rfl rfl, tb1 40 rfl rfl, rfl, tb1 3 rfl rfl, ⟨by decide +kernel, by decide +kernel, by decide +kernel⟩⟩
theorem ce_Scri_clear : CEv yX6_clear cX6_clear 1 none 6 0 := ⟨rfl, tb3 59 rfl rfl, tb3 57 rfl rfl, tb3 58 rfl rfl, tb1 3 rfl rfl, ⟨by decide +kernel, by decide +kernel, by decide +kernel⟩⟩
theorem ce_Scri_farFromPeg : CEv yX6_farFromPeg cX6_farFromPeg 2 (some (.int)) 6 1 := ⟨rfl, tb3 131 rfl rfl, tb3 129 rfl rfl, tb3 130 rfl rfl, tb1 3 rfl rfl, ⟨by decide +kernel, by decide +kernel, by decide +kernel⟩⟩
theorem ce_Scri_farBetween : CEv yX6_farBetween cX6_farBetween 3 (some (.int)) 6 2 := ⟨rfl, tb3 153 rfl rfl, tb3 151 rfl rfl, tb3 152 rfl rfl, tb1 3 rfl rfl, ⟨by decide +kernel, by decide +kernel, by decide +kernel⟩⟩
theorem ce_Shor_init : CEi yX7_init cX7_init 2 0 := ⟨tb2 13 rfl rfl, tb2 12 rfl rfl, rfl, tb1 9 rfl rfl, ⟨by decide +kernel, by decide +kernel, by decide +kernel⟩⟩
theorem ce_Shor_settle : CEv yX7_settle cX7_settle 4 none 7 0 := ⟨rfl, tb3 83 rfl rfl, tb3 81 rfl rfl, tb3 82 rfl rfl, tb1 9 rfl rfl, ⟨by decide +kernel, by decide +kernel, by decide +kernel⟩⟩
theorem ce_Shor_layOut : CEv yX7_layOut cX7_layOut 2 none 7 1 := ⟨rfl, tb3 115 rfl rfl, tb3 113 rfl rfl, tb3 114 rfl rfl, tb1 9 rfl rfl, ⟨by decide +kernel, by decide +kernel, by decide +kernel⟩⟩
theorem ce_Shor_holds : CEv yX7_holds cX7_holds 4 (some (.boolean)) 7 2 := ⟨rfl, tb5 190 rfl rfl, tb5 188 rfl rfl, tb5 189 rfl rfl, tb1 9 rfl rfl, ⟨by decide +kernel, by decide +kernel, by decide +kernel⟩⟩
theorem ce_Shor_dogTells : CEv yX7_dogTells cX7_dogTells 3 (some (.int)) 7 2 := ⟨rfl, tb5 231 rfl rfl, tb5 229 rfl rfl, tb5 230 rfl rfl, tb1 9 rfl rfl, ⟨by decide +kernel, by decide +kernel, by decide +kernel⟩⟩
theorem ce_Shor_allParts : CEv yX7_allParts cX7_allParts 1 (some (.int)) 7 0 := ⟨rfl, tb5 120 rfl rfl, tb5 118 rfl rfl, tb5 119 rfl rfl, tb1 9 rfl rfl, ⟨by decide +kernel, by decide +kernel, by decide +kernel⟩⟩
theorem ce_Shor_settleErrors : CEv yX7_settleErrors cX7_settleErrors 4 none 7 0 := ⟨rfl, tb3 127 rfl rfl, tb3 126 rfl rfl, sl_in (n := 7) 4 (by decide +kernel), tb1 9 rfl rfl, ⟨by decide +kernel, by decide +kernel, by decide +kernel⟩⟩
theorem ce_Shor_leastError : CEv yX7_leastError cX7_leastError 5 (some (.int)) 7 1 := ⟨rfl, tb3 145 rfl rfl, tb3 144 rfl rfl, sl_in (n := 7) 5 (by decide +kernel), tb1 9 rfl rfl, ⟨by decide +kernel, by decide +kernel, by decide +kernel⟩⟩
theorem ce_Shor_measureFrom : CEv yX7_measureFrom cX7_measureFrom 7 none 7 2 := ⟨rfl, tb3 149 rfl rfl, tb3 148 rfl rfl, sl_in (n := 7) 6 (by decide +kernel), tb1 9 rfl rfl, ⟨by decide +kernel, by decide +kernel, by decide +kernel⟩⟩
theorem ce_Stan_init : CEi yX8_init cX8_init 2 0 := ⟨tb2 94 rfl rfl, tb2 93 rfl rfl, rfl, tb1 11 rfl rfl, ⟨by decide +kernel, by decide +kernel, by decide +kernel⟩⟩
theorem ce_Stan_begin : CEv yX8_begin cX8_begin 3 none 8 1 := ⟨rfl, tb3 157 rfl rfl, tb3 155 rfl rfl, tb3 156 rfl rfl, tb1 11 rfl rfl, ⟨by decide +kernel, by decide +kernel, by decide +kernel⟩⟩
theorem ce_Stan_copy : CEv yX8_copy cX8_copy 3 none 8 1 := ⟨rfl, tb6 60 rfl rfl, tb6 58 rfl rfl, tb6 59 rfl rfl, tb1 11 rfl rfl, ⟨by decide +kernel, by decide +kernel, by decide +kernel⟩⟩
theorem ce_Stan_wouldBeDone : CEv yX8_wouldBeDone cX8_wouldBeDone 7 (some (.int)) 8 3 := ⟨rfl, tb4 191 rfl rfl, tb4 189 rfl rfl, tb4 190 rfl rfl, tb1 11 rfl rfl, ⟨by decide +kernel, by decide +kernel, by decide +kernel⟩⟩
theorem ce_Stan_rake : CEv yX8_rake cX8_rake 5 (some (.int)) 8 3 := ⟨rfl, tb4 187 rfl rfl, tb4 185 rfl rfl, tb4 186 rfl rfl, tb1 11 rfl rfl, ⟨by decide +kernel, by decide +kernel, by decide +kernel⟩⟩
theorem ce_Stan_strike : CEv yX8_strike cX8_strike 2 (some (.boolean)) 8 1 := ⟨rfl, tb4 230 rfl rfl, tb4 228 rfl rfl, tb4 229 rfl rfl, tb1 11 rfl rfl, ⟨by decide +kernel, by decide +kernel, by decide +kernel⟩⟩
theorem ce_Stan_repair : CEv yX8_repair cX8_repair 6 (some (.int)) 8 3 := ⟨rfl, tb4 238 rfl rfl, tb4 236 rfl rfl, tb4 237 rfl rfl, tb1 11 rfl rfl, ⟨by decide +kernel, by decide +kernel, by decide +kernel⟩⟩
theorem ce_Stan_addAct : CEv yX8_addAct cX8_addAct 4 none 8 3 := ⟨rfl, tb4 213 rfl rfl, tb4 212 rfl rfl, sl_in (n := 9) 26 (by decide +kernel), tb1 11 rfl rfl, ⟨by decide +kernel, by decide +kernel, by decide +kernel⟩⟩
theorem ce_Stan_visibleFrom : CEv yX8_visibleFrom cX8_visibleFrom 2 (some (.int)) 8 1 := ⟨rfl, tb5 23 rfl rfl, tb5 21 rfl rfl, tb5 22 rfl rfl, tb1 11 rfl rfl, ⟨by decide +kernel, by decide +kernel, by decide +kernel⟩⟩
theorem ce_Stan_isVisible : CEv yX8_isVisible cX8_isVisible 4 (some (.boolean)) 8 3 := ⟨rfl, tb5 19 rfl rfl, tb5 17 rfl rfl, tb5 18 rfl rfl, tb1 11 rfl rfl, ⟨by decide +kernel, by decide +kernel, by decide +kernel⟩⟩
theorem ce_Stan_visible : CEv yX8_visible cX8_visible 5 (some (.int)) 8 2 := ⟨rfl, tb5 15 rfl rfl, tb5 13 rfl rfl, tb5 14 rfl rfl, tb1 11 rfl rfl, ⟨by decide +kernel, by decide +kernel, by decide +kernel⟩⟩
theorem ce_Stan_neverDone : CEv yX8_neverDone cX8_neverDone 3 (some (.int)) 8 0 := ⟨rfl, tb5 55 rfl rfl, tb5 53 rfl rfl, tb5 54 rfl rfl, tb1 11 rfl rfl, ⟨by decide +kernel, by decide +kernel, by decide +kernel⟩⟩
theorem ce_Stan_crossedSet : CEv yX8_crossedSet cX8_crossedSet 3 (some (.int)) 8 0 := ⟨rfl, tb5 173 rfl rfl, tb5 171 rfl rfl, tb5 172 rfl rfl, tb1 11 rfl rfl, ⟨by decide +kernel, by decide +kernel, by decide +kernel⟩⟩
theorem ce_Told_init : CEi yX9_init cX9_init 1 0 := ⟨tb3 35 rfl rfl, tb3 34 rfl rfl, rfl, tb1 16 rfl rfl, ⟨by decide +kernel, by decide +kernel, by decide +kernel⟩⟩
theorem ce_Told_add : CEv yX9_add cX9_add 4 (some (.int)) 9 3 := ⟨rfl, tb6 23 rfl rfl, tb6 21 rfl rfl, tb6 22 rfl rfl, tb1 16 rfl rfl, ⟨by decide +kernel, by decide +kernel, by decide +kernel⟩⟩
theorem ce_Told_way : CEv yX9_way cX9_way 8 (some (.int)) 9 4 := ⟨rfl, tb6 35 rfl rfl, tb6 33 rfl rfl, tb6 34 rfl rfl, tb1 16 rfl rfl, ⟨by decide +kernel, by decide +kernel, by decide +kernel⟩⟩
theorem ce_Told_replay : CEv yX9_replay cX9_replay 9 none 9 4 := ⟨rfl, tb6 39 rfl rfl, tb6 38 rfl rfl, sl_in (n := 5) 40 (by decide +kernel), tb1 16 rfl rfl, ⟨by decide +kernel, by decide +kernel, by decide +kernel⟩⟩
theorem ce_Told_agrees : CEv yX9_agrees cX9_agrees 5 (some (.boolean)) 9 2 := ⟨rfl, tb6 48 rfl rfl, tb6 47 rfl rfl, sl_in (n := 5) 41 (by decide +kernel), tb1 16 rfl rfl, ⟨by decide +kernel, by decide +kernel, by decide +kernel⟩⟩
theorem ce_Walk_init : CEi yX10_init cX10_init 1 0 := ⟨tb2 101 rfl rfl, tb2 100 rfl rfl, rfl, tb1 12 rfl rfl, ⟨by decide +kernel, by decide +kernel, by decide +kernel⟩⟩
theorem ce_Walk_copy : CEv yX10_copy cX10_copy 2 none 10 1 := ⟨rfl, tb5 156 rfl rfl, tb5 154 rfl rfl, tb5 155 rfl rfl, tb1 12 rfl rfl, ⟨by decide +kernel, by decide +kernel, by decide +kernel⟩⟩
theorem ce_Walk_begin : CEv yX10_begin cX10_begin 3 none 10 2 := ⟨rfl, tb3 161 rfl rfl, tb3 159 rfl rfl, tb3 160 rfl rfl, tb1 12 rfl rfl, ⟨by decide +kernel, by decide +kernel, by decide +kernel⟩⟩
theorem ce_Walk_comesTo : CEv yX10_comesTo cX10_comesTo 2 (some (.int)) 10 1 := ⟨rfl, tb4 195 rfl rfl, tb4 193 rfl rfl, tb4 194 rfl rfl, tb1 12 rfl rfl, ⟨by decide +kernel, by decide +kernel, by decide +kernel⟩⟩
theorem ce_Walk_goTo : CEv yX10_goTo cX10_goTo 3 none 10 2 := ⟨rfl, tb4 209 rfl rfl, tb4 207 rfl rfl, tb4 208 rfl rfl, tb1 12 rfl rfl, ⟨by decide +kernel, by decide +kernel, by decide +kernel⟩⟩
theorem ce_Tide_init : CEi yX11_init cX11_init 2 0 := ⟨tb1 27 rfl rfl, tb1 26 rfl rfl, rfl, tb1 1 rfl rfl, ⟨by decide +kernel, by decide +kernel, by decide +kernel⟩⟩
theorem ce_Tide_feed : CEv yX11_feed cX11_feed 6 (some (.int)) 11 5 := ⟨rfl, tb3 219 rfl rfl, tb3 217 rfl rfl, tb3 218 rfl rfl, tb1 1 rfl rfl, ⟨by decide +kernel, by decide +kernel, by decide +kernel⟩⟩
theorem ce_Tide_back : CEv yX11_back cX11_back 2 (some (.int)) 11 1 := ⟨rfl, tb3 227 rfl rfl, tb3 225 rfl rfl, tb3 226 rfl rfl, tb1 1 rfl rfl, ⟨by decide +kernel, by decide +kernel, by decide +kernel⟩⟩
theorem ce_Tide_read : CEv yX11_read cX11_read 3 (some (.int)) 11 0 := ⟨rfl, tb3 231 rfl rfl, tb3 229 rfl rfl, tb3 230 rfl rfl, tb1 1 rfl rfl, ⟨by decide +kernel, by decide +kernel, by decide +kernel⟩⟩
theorem ce_Tide_place : CEv yX11_place cX11_place 1 (some (.int)) 11 0 := ⟨rfl, tb4 136 rfl rfl, tb4 134 rfl rfl, tb4 135 rfl rfl, tb1 1 rfl rfl, ⟨by decide +kernel, by decide +kernel, by decide +kernel⟩⟩
theorem ce_Tide_part : CEv yX11_part cX11_part 3 (some (.int)) 11 2 := ⟨rfl, tb4 140 rfl rfl, tb4 138 rfl rfl, tb4 139 rfl rfl, tb1 1 rfl rfl, ⟨by decide +kernel, by decide +kernel, by decide +kernel⟩⟩
theorem ce_Tide_worker : CEv yX11_worker cX11_worker 4 (some (.int)) 11 2 := ⟨rfl, tb4 148 rfl rfl, tb4 146 rfl rfl, tb4 147 rfl rfl, tb1 1 rfl rfl, ⟨by decide +kernel, by decide +kernel, by decide +kernel⟩⟩
theorem ce_Tide_minute : CEv yX11_minute cX11_minute 3 (some (.int)) 11 2 := ⟨rfl, tb4 156 rfl rfl, tb4 154 rfl rfl, tb4 155 rfl rfl, tb1 1 rfl rfl, ⟨by decide +kernel, by decide +kernel, by decide +kernel⟩⟩
theorem ce_Tide_free : CEv yX11_free cX11_free 3 (some (.int)) 11 2 := ⟨rfl, tb4 163 rfl rfl, tb4 161 rfl rfl, tb4 162 rfl rfl, tb1 1 rfl rfl, ⟨by decide +kernel, by decide +kernel, by decide +kernel⟩⟩
theorem ce_Tide_when : CEv yX11_when cX11_when 3 (some (.int)) 11 2 := ⟨rfl, tb4 171 rfl rfl, tb4 169 rfl rfl, tb4 170 rfl rfl, tb1 1 rfl rfl, ⟨by decide +kernel, by decide +kernel, by decide +kernel⟩⟩
theorem ce_Tide_send : CEv yX11_send cX11_send 3 (some (.int)) 11 2 := ⟨rfl, tb4 179 rfl rfl, tb4 177 rfl rfl, tb4 178 rfl rfl, tb1 1 rfl rfl, ⟨by decide +kernel, by decide +kernel, by decide +kernel⟩⟩
theorem ce_Tide_cross : CEv yX11_cross cX11_cross 2 (some (.boolean)) 11 1 := ⟨rfl, tb4 226 rfl rfl, tb4 224 rfl rfl, tb4 225 rfl rfl, tb1 1 rfl rfl, ⟨by decide +kernel, by decide +kernel, by decide +kernel⟩⟩
theorem ce_Tide_mend : CEv yX11_mend cX11_mend 3 (some (.int)) 11 2 := ⟨rfl, tb4 234 rfl rfl, tb4 232 rfl rfl, tb4 233 rfl rfl, tb1 1 rfl rfl, ⟨by decide +kernel, by decide +kernel, by decide +kernel⟩⟩
theorem ce_Tide_undo : CEv yX11_undo cX11_undo 2 (some (.boolean)) 11 0 := ⟨rfl, tb5 3 rfl rfl, tb5 1 rfl rfl, tb5 2 rfl rfl, tb1 1 rfl rfl, ⟨by decide +kernel, by decide +kernel, by decide +kernel⟩⟩
theorem ce_Tide_seen : CEv yX11_seen cX11_seen 2 (some (.int)) 11 1 := ⟨rfl, tb5 11 rfl rfl, tb5 9 rfl rfl, tb5 10 rfl rfl, tb1 1 rfl rfl, ⟨by decide +kernel, by decide +kernel, by decide +kernel⟩⟩
theorem ce_Tide_photo : CEv yX11_photo cX11_photo 2 (some (.int)) 11 1 := ⟨rfl, tb5 28 rfl rfl, tb5 26 rfl rfl, tb5 27 rfl rfl, tb1 1 rfl rfl, ⟨by decide +kernel, by decide +kernel, by decide +kernel⟩⟩
theorem ce_Tide_bestMinute : CEv yX11_bestMinute cX11_bestMinute 5 (some (.int)) 11 0 := ⟨rfl, tb5 36 rfl rfl, tb5 34 rfl rfl, tb5 35 rfl rfl, tb1 1 rfl rfl, ⟨by decide +kernel, by decide +kernel, by decide +kernel⟩⟩
theorem ce_Tide_stays : CEv yX11_stays cX11_stays 4 (some (.int)) 11 2 := ⟨rfl, tb5 40 rfl rfl, tb5 38 rfl rfl, tb5 39 rfl rfl, tb1 1 rfl rfl, ⟨by decide +kernel, by decide +kernel, by decide +kernel⟩⟩
theorem ce_Tide_plan : CEv yX11_plan cX11_plan 4 (some (.int)) 11 3 := ⟨rfl, tb5 44 rfl rfl, tb5 42 rfl rfl, tb5 43 rfl rfl, tb1 1 rfl rfl, ⟨by decide +kernel, by decide +kernel, by decide +kernel⟩⟩
theorem ce_Tide_planAt : CEv yX11_planAt cX11_planAt 5 (some (.int)) 11 3 := ⟨rfl, tb5 88 rfl rfl, tb5 86 rfl rfl, tb5 87 rfl rfl, tb1 1 rfl rfl, ⟨by decide +kernel, by decide +kernel, by decide +kernel⟩⟩
theorem ce_Tide_two : CEv yX11_two cX11_two 10 (some (.int)) 11 4 := ⟨rfl, tb5 112 rfl rfl, tb5 110 rfl rfl, tb5 111 rfl rfl, tb1 1 rfl rfl, ⟨by decide +kernel, by decide +kernel, by decide +kernel⟩⟩
theorem ce_Tide_hands : CEv yX11_hands cX11_hands 4 (some (.int)) 11 2 := ⟨rfl, tb5 128 rfl rfl, tb5 126 rfl rfl, tb5 127 rfl rfl, tb1 1 rfl rfl, ⟨by decide +kernel, by decide +kernel, by decide +kernel⟩⟩
theorem ce_Tide_spare : CEv yX11_spare cX11_spare 3 (some (.int)) 11 2 := ⟨rfl, tb5 144 rfl rfl, tb5 142 rfl rfl, tb5 143 rfl rfl, tb1 1 rfl rfl, ⟨by decide +kernel, by decide +kernel, by decide +kernel⟩⟩
theorem ce_Tide_quickest : CEv yX11_quickest cX11_quickest 7 (some (.int)) 11 2 := ⟨rfl, tb5 160 rfl rfl, tb5 158 rfl rfl, tb5 159 rfl rfl, tb1 1 rfl rfl, ⟨by decide +kernel, by decide +kernel, by decide +kernel⟩⟩
theorem ce_Tide_mends : CEv yX11_mends cX11_mends 4 (some (.int)) 11 3 := ⟨rfl, tb5 165 rfl rfl, tb5 163 rfl rfl, tb5 164 rfl rfl, tb1 1 rfl rfl, ⟨by decide +kernel, by decide +kernel, by decide +kernel⟩⟩
theorem ce_Tide_after : CEv yX11_after cX11_after 5 (some (.int)) 11 3 := ⟨rfl, tb5 177 rfl rfl, tb5 175 rfl rfl, tb5 176 rfl rfl, tb1 1 rfl rfl, ⟨by decide +kernel, by decide +kernel, by decide +kernel⟩⟩
theorem ce_Tide_window : CEv yX11_window cX11_window 9 (some (.int)) 11 3 := ⟨rfl, tb5 186 rfl rfl, tb5 184 rfl rfl, tb5 185 rfl rfl, tb1 1 rfl rfl, ⟨by decide +kernel, by decide +kernel, by decide +kernel⟩⟩
theorem ce_Tide_large : CEv yX11_large cX11_large 2 (some (.int)) 11 1 := ⟨rfl, tb5 199 rfl rfl, tb5 197 rfl rfl, tb5 198 rfl rfl, tb1 1 rfl rfl, ⟨by decide +kernel, by decide +kernel, by decide +kernel⟩⟩
theorem ce_Tide_hopes : CEv yX11_hopes cX11_hopes 6 (some (.int)) 11 3 := ⟨rfl, tb5 214 rfl rfl, tb5 212 rfl rfl, tb5 213 rfl rfl, tb1 1 rfl rfl, ⟨by decide +kernel, by decide +kernel, by decide +kernel⟩⟩
theorem ce_Tide_hope : CEv yX11_hope cX11_hope 5 (some (.int)) 11 2 := ⟨rfl, tb6 3 rfl rfl, tb6 1 rfl rfl, tb6 2 rfl rfl, tb1 1 rfl rfl, ⟨by decide +kernel, by decide +kernel, by decide +kernel⟩⟩
theorem ce_Tide_dog : CEv yX11_dog cX11_dog 3 (some (.int)) 11 2 := ⟨rfl, tb6 7 rfl rfl, tb6 5 rfl rfl, tb6 6 rfl rfl, tb1 1 rfl rfl, ⟨by decide +kernel, by decide +kernel, by decide +kernel⟩⟩
theorem ce_Tide_error : CEv yX11_error cX11_error 3 (some (.int)) 11 2 := ⟨rfl, tb6 11 rfl rfl, tb6 9 rfl rfl, tb6 10 rfl rfl, tb1 1 rfl rfl, ⟨by decide +kernel, by decide +kernel, by decide +kernel⟩⟩
theorem ce_Tide_fails : CEv yX11_fails cX11_fails 4 (some (.int)) 11 1 := ⟨rfl, tb6 15 rfl rfl, tb6 13 rfl rfl, tb6 14 rfl rfl, tb1 1 rfl rfl, ⟨by decide +kernel, by decide +kernel, by decide +kernel⟩⟩
theorem ce_Tide_tell : CEv yX11_tell cX11_tell 4 (some (.int)) 11 3 := ⟨rfl, tb6 19 rfl rfl, tb6 17 rfl rfl, tb6 18 rfl rfl, tb1 1 rfl rfl, ⟨by decide +kernel, by decide +kernel, by decide +kernel⟩⟩
theorem ce_Tide_forget : CEv yX11_forget cX11_forget 2 (some (.int)) 11 0 := ⟨rfl, tb6 27 rfl rfl, tb6 25 rfl rfl, tb6 26 rfl rfl, tb1 1 rfl rfl, ⟨by decide +kernel, by decide +kernel, by decide +kernel⟩⟩
theorem ce_Tide_late : CEv yX11_late cX11_late 3 (some (.int)) 11 2 := ⟨rfl, tb6 31 rfl rfl, tb6 29 rfl rfl, tb6 30 rfl rfl, tb1 1 rfl rfl, ⟨by decide +kernel, by decide +kernel, by decide +kernel⟩⟩
theorem ce_Tide_hold : CEv yX11_hold cX11_hold 2 (some (.boolean)) 11 1 := ⟨rfl, tb6 53 rfl rfl, tb6 51 rfl rfl, tb6 52 rfl rfl, tb1 1 rfl rfl, ⟨by decide +kernel, by decide +kernel, by decide +kernel⟩⟩
theorem ce_Tide_restore : CEv yX11_restore cX11_restore 2 (some (.boolean)) 11 1 := ⟨rfl, tb6 68 rfl rfl, tb6 66 rfl rfl, tb6 67 rfl rfl, tb1 1 rfl rfl, ⟨by decide +kernel, by decide +kernel, by decide +kernel⟩⟩
theorem ce_Tide_count : CEv yX11_count cX11_count 2 (some (.int)) 11 1 := ⟨rfl, tb6 72 rfl rfl, tb6 70 rfl rfl, tb6 71 rfl rfl, tb1 1 rfl rfl, ⟨by decide +kernel, by decide +kernel, by decide +kernel⟩⟩
theorem ce_Tide_putBytes : CEv yX11_putBytes cX11_putBytes 3 none 11 1 := ⟨rfl, tb3 223 rfl rfl, tb3 222 rfl rfl, sl_in (n := 14) 7 (by decide +kernel), tb1 1 rfl rfl, ⟨by decide +kernel, by decide +kernel, by decide +kernel⟩⟩
theorem ce_Tide_beginDay : CEv yX11_beginDay cX11_beginDay 2 none 11 0 := ⟨rfl, tb3 79 rfl rfl, tb3 78 rfl rfl, sl_in (n := 14) 1 (by decide +kernel), tb1 1 rfl rfl, ⟨by decide +kernel, by decide +kernel, by decide +kernel⟩⟩
theorem ce_Tide_keepIfDone : CEv yX11_keepIfDone cX11_keepIfDone 2 (some (.int)) 11 1 := ⟨rfl, tb4 217 rfl rfl, tb4 216 rfl rfl, sl_in (n := 14) 27 (by decide +kernel), tb1 1 rfl rfl, ⟨by decide +kernel, by decide +kernel, by decide +kernel⟩⟩
theorem ce_Tide_picture : CEv yX11_picture cX11_picture 2 (some (.int)) 11 1 := ⟨rfl, tb5 32 rfl rfl, tb5 31 rfl rfl, sl_in (n := 14) 28 (by decide +kernel), tb1 1 rfl rfl, ⟨by decide +kernel, by decide +kernel, by decide +kernel⟩⟩
theorem ce_Tide_letDogsRun : CEv yX11_letDogsRun cX11_letDogsRun 5 none 11 2 := ⟨rfl, tb5 218 rfl rfl, tb5 217 rfl rfl, sl_in (n := 14) 37 (by decide +kernel), tb1 1 rfl rfl, ⟨by decide +kernel, by decide +kernel, by decide +kernel⟩⟩
theorem ce_Tide_letDogsRunOver : CEv yX11_letDogsRunOver cX11_letDogsRunOver 6 none 11 3 := ⟨rfl, tb5 226 rfl rfl, tb5 225 rfl rfl, sl_in (n := 14) 38 (by decide +kernel), tb1 1 rfl rfl, ⟨by decide +kernel, by decide +kernel, by decide +kernel⟩⟩
theorem ce_Tide_isRunOver : CEv yX11_isRunOver cX11_isRunOver 7 (some (.boolean)) 11 4 := ⟨rfl, tb5 239 rfl rfl, tb5 238 rfl rfl, sl_in (n := 14) 39 (by decide +kernel), tb1 1 rfl rfl, ⟨by decide +kernel, by decide +kernel, by decide +kernel⟩⟩
theorem ce_Tide_mixed : CEs yX11_mixed cX11_mixed 3 (some (.int)) 2 := ⟨tb5 221 rfl rfl, tb5 220 rfl rfl, tb1 1 rfl rfl, ⟨by decide +kernel, by decide +kernel, by decide +kernel⟩⟩
theorem ce_Tide_answer : CEv yX11_answer cX11_answer 5 (some (.int)) 11 3 := ⟨rfl, tb5 80 rfl rfl, tb5 79 rfl rfl, sl_in (n := 14) 32 (by decide +kernel), tb1 1 rfl rfl, ⟨by decide +kernel, by decide +kernel, by decide +kernel⟩⟩
theorem ce_Tide_lastHolding : CEv yX11_lastHolding cX11_lastHolding 4 (some (.int)) 11 2 := ⟨rfl, tb5 195 rfl rfl, tb5 194 rfl rfl, sl_in (n := 14) 35 (by decide +kernel), tb1 1 rfl rfl, ⟨by decide +kernel, by decide +kernel, by decide +kernel⟩⟩
theorem ce_Tide_heldSlots : CEv yX11_heldSlots cX11_heldSlots 3 (some (.int)) 11 0 := ⟨rfl, tb6 79 rfl rfl, tb6 78 rfl rfl, sl_in (n := 14) 42 (by decide +kernel), tb1 1 rfl rfl, ⟨by decide +kernel, by decide +kernel, by decide +kernel⟩⟩
theorem ce_Tide_isPart : CEv yX11_isPart cX11_isPart 2 (some (.boolean)) 11 1 := ⟨rfl, tb4 144 rfl rfl, tb4 143 rfl rfl, sl_in (n := 14) 24 (by decide +kernel), tb1 1 rfl rfl, ⟨by decide +kernel, by decide +kernel, by decide +kernel⟩⟩
theorem ce_Tide_isWorker : CEv yX11_isWorker cX11_isWorker 2 (some (.boolean)) 11 1 := ⟨rfl, tb4 152 rfl rfl, tb4 151 rfl rfl, sl_in (n := 14) 25 (by decide +kernel), tb1 1 rfl rfl, ⟨by decide +kernel, by decide +kernel, by decide +kernel⟩⟩
theorem ce_Tide_isMinute : CEs yX11_isMinute cX11_isMinute 1 (some (.boolean)) 1 := ⟨tb4 159 rfl rfl, tb4 158 rfl rfl, tb1 1 rfl rfl, ⟨by decide +kernel, by decide +kernel, by decide +kernel⟩⟩
theorem ce_Tide_isBound : CEs yX11_isBound cX11_isBound 1 (some (.boolean)) 1 := ⟨tb5 47 rfl rfl, tb5 46 rfl rfl, tb1 1 rfl rfl, ⟨by decide +kernel, by decide +kernel, by decide +kernel⟩⟩
theorem ce_Tide_isSlot : CEs yX11_isSlot cX11_isSlot 1 (some (.boolean)) 1 := ⟨tb6 56 rfl rfl, tb6 55 rfl rfl, tb1 1 rfl rfl, ⟨by decide +kernel, by decide +kernel, by decide +kernel⟩⟩
theorem ce_Tide_far : CEs yX11_far cX11_far 4 (some (.int)) 4 := ⟨tb3 134 rfl rfl, tb3 133 rfl rfl, tb1 1 rfl rfl, ⟨by decide +kernel, by decide +kernel, by decide +kernel⟩⟩
theorem ce_Tide_roundedUp : CEs yX11_roundedUp cX11_roundedUp 2 (some (.int)) 2 := ⟨tb4 199 rfl rfl, tb4 198 rfl rfl, tb1 1 rfl rfl, ⟨by decide +kernel, by decide +kernel, by decide +kernel⟩⟩
theorem ce_Mod_init : CEi yX12_init cX12_init 1 0 := ⟨tb6 84 rfl rfl, tb6 83 rfl rfl, rfl, tb1 19 rfl rfl, ⟨by decide +kernel, by decide +kernel, by decide +kernel⟩⟩
theorem ce_Mod_feed : CEv yX12_feed cX12_feed 6 (some (.int)) 12 5 := ⟨rfl, tb7 153 rfl rfl, tb7 151 rfl rfl, tb7 152 rfl rfl, tb1 19 rfl rfl, ⟨by decide +kernel, by decide +kernel, by decide +kernel⟩⟩
theorem ce_Mod_put : CEv yX12_put cX12_put 3 none 12 1 := ⟨rfl, tb7 157 rfl rfl, tb7 156 rfl rfl, sl_in (n := 86) 52 (by decide +kernel), tb1 19 rfl rfl, ⟨by decide +kernel, by decide +kernel, by decide +kernel⟩⟩
theorem ce_Mod_back : CEv yX12_back cX12_back 2 (some (.int)) 12 1 := ⟨rfl, tb7 161 rfl rfl, tb7 159 rfl rfl, tb7 160 rfl rfl, tb1 19 rfl rfl, ⟨by decide +kernel, by decide +kernel, by decide +kernel⟩⟩
theorem ce_Mod_byteAt : CEv yX12_byteAt cX12_byteAt 2 (some (.int)) 12 1 := ⟨rfl, tb7 173 rfl rfl, tb7 172 rfl rfl, sl_in (n := 86) 54 (by decide +kernel), tb1 19 rfl rfl, ⟨by decide +kernel, by decide +kernel, by decide +kernel⟩⟩
theorem ce_Mod_isDigit : CEs yX12_isDigit cX12_isDigit 1 (some (.boolean)) 1 := ⟨tb7 183 rfl rfl, tb7 182 rfl rfl, tb1 19 rfl rfl, ⟨by decide +kernel, by decide +kernel, by decide +kernel⟩⟩
theorem ce_Mod_isLetter : CEs yX12_isLetter cX12_isLetter 1 (some (.boolean)) 1 := ⟨tb7 180 rfl rfl, tb7 179 rfl rfl, tb1 19 rfl rfl, ⟨by decide +kernel, by decide +kernel, by decide +kernel⟩⟩
theorem ce_Mod_appends : CEs yX12_appends cX12_appends 3 (some (.long)) 2 := ⟨tb6 95 rfl rfl, tb6 94 rfl rfl, tb1 19 rfl rfl, ⟨by decide +kernel, by decide +kernel, by decide +kernel⟩⟩
theorem ce_Mod_word : CEs yX12_word cX12_word 7 (some (.long)) 7 := ⟨tb6 92 rfl rfl, tb6 91 rfl rfl, tb1 19 rfl rfl, ⟨by decide +kernel, by decide +kernel, by decide +kernel⟩⟩
theorem ce_Mod_token : CEv yX12_token cX12_token 6 none 12 4 := ⟨rfl, tb7 177 rfl rfl, tb7 176 rfl rfl, sl_in (n := 86) 55 (by decide +kernel), tb1 19 rfl rfl, ⟨by decide +kernel, by decide +kernel, by decide +kernel⟩⟩
theorem ce_Mod_cut : CEv yX12_cut cX12_cut 8 none 12 0 := ⟨rfl, tb7 169 rfl rfl, tb7 168 rfl rfl, sl_in (n := 86) 53 (by decide +kernel), tb1 19 rfl rfl, ⟨by decide +kernel, by decide +kernel, by decide +kernel⟩⟩
theorem ce_Mod_sign : CEv yX12_sign cX12_sign 5 (some (.int)) 12 3 := ⟨rfl, tb7 187 rfl rfl, tb7 186 rfl rfl, sl_in (n := 86) 56 (by decide +kernel), tb1 19 rfl rfl, ⟨by decide +kernel, by decide +kernel, by decide +kernel⟩⟩
theorem ce_Mod_is : CEv yX12_is cX12_is 2 (some (.boolean)) 12 1 := ⟨rfl, tb7 191 rfl rfl, tb7 190 rfl rfl, sl_in (n := 86) 57 (by decide +kernel), tb1 19 rfl rfl, ⟨by decide +kernel, by decide +kernel, by decide +kernel⟩⟩
theorem ce_Mod_fail : CEv yX12_fail cX12_fail 2 none 12 1 := ⟨rfl, tb7 203 rfl rfl, tb7 202 rfl rfl, sl_in (n := 86) 60 (by decide +kernel), tb1 19 rfl rfl, ⟨by decide +kernel, by decide +kernel, by decide +kernel⟩⟩
theorem ce_Mod_wrong : CEv yX12_wrong cX12_wrong 4 none 12 2 := ⟨rfl, tb7 223 rfl rfl, tb7 222 rfl rfl, sl_in (n := 86) 65 (by decide +kernel), tb1 19 rfl rfl, ⟨by decide +kernel, by decide +kernel, by decide +kernel⟩⟩
theorem ce_Mod_goesOn : CEv yX12_goesOn cX12_goesOn 1 none 12 0 := ⟨rfl, tb7 207 rfl rfl, tb7 206 rfl rfl, sl_in (n := 86) 61 (by decide +kernel), tb1 19 rfl rfl, ⟨by decide +kernel, by decide +kernel, by decide +kernel⟩⟩
theorem ce_Mod_must : CEv yX12_must cX12_must 2 none 12 1 := ⟨rfl, tb7 219 rfl rfl, tb7 218 rfl rfl, sl_in (n := 86) 64 (by decide +kernel), tb1 19 rfl rfl, ⟨by decide +kernel, by decide +kernel, by decide +kernel⟩⟩
theorem ce_Mod_plain : CEv yX12_plain cX12_plain 3 none 12 1 := ⟨rfl, tb6 89 rfl rfl, tb6 88 rfl rfl, sl_in (n := 86) 43 (by decide +kernel), tb1 19 rfl rfl, ⟨by decide +kernel, by decide +kernel, by decide +kernel⟩⟩
theorem ce_Mod_read : CEv yX12_read cX12_read 2 (some (.int)) 12 0 := ⟨rfl, tb7 165 rfl rfl, tb7 163 rfl rfl, tb7 164 rfl rfl, tb1 19 rfl rfl, ⟨by decide +kernel, by decide +kernel, by decide +kernel⟩⟩
theorem ce_Mod_place : CEv yX12_place cX12_place 1 (some (.int)) 12 0 := ⟨rfl, tb8 19 rfl rfl, tb8 17 rfl rfl, tb8 18 rfl rfl, tb1 19 rfl rfl, ⟨by decide +kernel, by decide +kernel, by decide +kernel⟩⟩
theorem ce_Mod_roomFor : CEv yX12_roomFor cX12_roomFor 3 none 12 2 := ⟨rfl, tb7 199 rfl rfl, tb7 198 rfl rfl, sl_in (n := 86) 59 (by decide +kernel), tb1 19 rfl rfl, ⟨by decide +kernel, by decide +kernel, by decide +kernel⟩⟩
theorem ce_Mod_tellOne : CEv yX12_tellOne cX12_tellOne 2 none 12 0 := ⟨rfl, tb7 195 rfl rfl, tb7 194 rfl rfl, sl_in (n := 86) 58 (by decide +kernel), tb1 19 rfl rfl, ⟨by decide +kernel, by decide +kernel, by decide +kernel⟩⟩
theorem ce_Mod_named : CEv yX12_named cX12_named 3 (some (.int)) 12 0 := ⟨rfl, tb7 215 rfl rfl, tb7 214 rfl rfl, sl_in (n := 86) 63 (by decide +kernel), tb1 19 rfl rfl, ⟨by decide +kernel, by decide +kernel, by decide +kernel⟩⟩
theorem ce_Mod_bounded : CEv yX12_bounded cX12_bounded 4 (some (.int)) 12 2 := ⟨rfl, tb7 227 rfl rfl, tb7 226 rfl rfl, sl_in (n := 86) 66 (by decide +kernel), tb1 19 rfl rfl, ⟨by decide +kernel, by decide +kernel, by decide +kernel⟩⟩
theorem ce_Mod_tellPart : CEv yX12_tellPart cX12_tellPart 3 none 12 0 := ⟨rfl, tb7 211 rfl rfl, tb7 210 rfl rfl, sl_in (n := 86) 62 (by decide +kernel), tb1 19 rfl rfl, ⟨by decide +kernel, by decide +kernel, by decide +kernel⟩⟩
theorem ce_Mod_tellWorker : CEv yX12_tellWorker cX12_tellWorker 3 none 12 0 := ⟨rfl, tb7 231 rfl rfl, tb7 230 rfl rfl, sl_in (n := 86) 67 (by decide +kernel), tb1 19 rfl rfl, ⟨by decide +kernel, by decide +kernel, by decide +kernel⟩⟩
theorem ce_Mod_tellLaw : CEv yX12_tellLaw cX12_tellLaw 4 none 12 1 := ⟨rfl, tb7 235 rfl rfl, tb7 234 rfl rfl, sl_in (n := 86) 68 (by decide +kernel), tb1 19 rfl rfl, ⟨by decide +kernel, by decide +kernel, by decide +kernel⟩⟩
theorem ce_Mod_term : CEv yX12_term cX12_term 1 none 12 0 := ⟨rfl, tb8 15 rfl rfl, tb8 14 rfl rfl, sl_in (n := 86) 73 (by decide +kernel), tb1 19 rfl rfl, ⟨by decide +kernel, by decide +kernel, by decide +kernel⟩⟩
theorem ce_Mod_emit : CEv yX12_emit cX12_emit 3 none 12 2 := ⟨rfl, tb8 7 rfl rfl, tb8 6 rfl rfl, sl_in (n := 86) 71 (by decide +kernel), tb1 19 rfl rfl, ⟨by decide +kernel, by decide +kernel, by decide +kernel⟩⟩
theorem ce_Mod_comesOut : CEv yX12_comesOut cX12_comesOut 3 none 12 1 := ⟨rfl, tb8 11 rfl rfl, tb8 10 rfl rfl, sl_in (n := 86) 72 (by decide +kernel), tb1 19 rfl rfl, ⟨by decide +kernel, by decide +kernel, by decide +kernel⟩⟩
theorem ce_Mod_expression : CEv yX12_expression cX12_expression 3 none 12 0 := ⟨rfl, tb7 239 rfl rfl, tb7 238 rfl rfl, sl_in (n := 86) 69 (by decide +kernel), tb1 19 rfl rfl, ⟨by decide +kernel, by decide +kernel, by decide +kernel⟩⟩
theorem ce_Mod_unit : CEv yX12_unit cX12_unit 1 none 12 0 := ⟨rfl, tb8 3 rfl rfl, tb8 2 rfl rfl, sl_in (n := 86) 70 (by decide +kernel), tb1 19 rfl rfl, ⟨by decide +kernel, by decide +kernel, by decide +kernel⟩⟩
theorem ce_Mod_termOf : CEv yX12_termOf cX12_termOf 8 (some (.int)) 12 2 := ⟨rfl, tb6 112 rfl rfl, tb6 111 rfl rfl, sl_in (n := 86) 47 (by decide +kernel), tb1 19 rfl rfl, ⟨by decide +kernel, by decide +kernel, by decide +kernel⟩⟩
theorem ce_Mod_in : CEs yX12_in cX12_in 3 (some (.boolean)) 3 := ⟨tb6 123 rfl rfl, tb6 122 rfl rfl, tb1 19 rfl rfl, ⟨by decide +kernel, by decide +kernel, by decide +kernel⟩⟩
theorem ce_Mod_isPart : CEv yX12_isPart cX12_isPart 2 (some (.boolean)) 12 1 := ⟨rfl, tb8 27 rfl rfl, tb8 26 rfl rfl, sl_in (n := 86) 74 (by decide +kernel), tb1 19 rfl rfl, ⟨by decide +kernel, by decide +kernel, by decide +kernel⟩⟩
theorem ce_Mod_isWorker : CEv yX12_isWorker cX12_isWorker 2 (some (.boolean)) 12 1 := ⟨rfl, tb8 35 rfl rfl, tb8 34 rfl rfl, sl_in (n := 86) 75 (by decide +kernel), tb1 19 rfl rfl, ⟨by decide +kernel, by decide +kernel, by decide +kernel⟩⟩
theorem ce_Mod_tells : CEv yX12_tells cX12_tells 9 (some (.int)) 12 4 := ⟨rfl, tb6 108 rfl rfl, tb6 107 rfl rfl, sl_in (n := 86) 46 (by decide +kernel), tb1 19 rfl rfl, ⟨by decide +kernel, by decide +kernel, by decide +kernel⟩⟩
theorem ce_Mod_setsOf : CEv yX12_setsOf cX12_setsOf 6 none 12 5 := ⟨rfl, tb6 104 rfl rfl, tb6 103 rfl rfl, sl_in (n := 86) 45 (by decide +kernel), tb1 19 rfl rfl, ⟨by decide +kernel, by decide +kernel, by decide +kernel⟩⟩
theorem ce_Mod_layOut : CEv yX12_layOut cX12_layOut 3 none 12 0 := ⟨rfl, tb6 100 rfl rfl, tb6 99 rfl rfl, sl_in (n := 86) 44 (by decide +kernel), tb1 19 rfl rfl, ⟨by decide +kernel, by decide +kernel, by decide +kernel⟩⟩
theorem ce_Mod_laysPart : CEv yX12_laysPart cX12_laysPart 4 none 12 1 := ⟨rfl, tb6 116 rfl rfl, tb6 115 rfl rfl, sl_in (n := 86) 48 (by decide +kernel), tb1 19 rfl rfl, ⟨by decide +kernel, by decide +kernel, by decide +kernel⟩⟩
theorem ce_Mod_isHolding : CEv yX12_isHolding cX12_isHolding 3 (some (.boolean)) 12 2 := ⟨rfl, tb6 120 rfl rfl, tb6 119 rfl rfl, sl_in (n := 86) 49 (by decide +kernel), tb1 19 rfl rfl, ⟨by decide +kernel, by decide +kernel, by decide +kernel⟩⟩
theorem ce_Mod_firstFrom : CEv yX12_firstFrom cX12_firstFrom 3 (some (.int)) 12 2 := ⟨rfl, tb8 58 rfl rfl, tb8 57 rfl rfl, sl_in (n := 86) 76 (by decide +kernel), tb1 19 rfl rfl, ⟨by decide +kernel, by decide +kernel, by decide +kernel⟩⟩
theorem ce_Mod_isCovered : CEv yX12_isCovered cX12_isCovered 5 (some (.boolean)) 12 3 := ⟨rfl, tb8 93 rfl rfl, tb8 92 rfl rfl, sl_in (n := 86) 81 (by decide +kernel), tb1 19 rfl rfl, ⟨by decide +kernel, by decide +kernel, by decide +kernel⟩⟩
theorem ce_Mod_apart : CEs yX12_apart cX12_apart 2 (some (.int)) 2 := ⟨tb8 89 rfl rfl, tb8 88 rfl rfl, tb1 19 rfl rfl, ⟨by decide +kernel, by decide +kernel, by decide +kernel⟩⟩
theorem ce_Mod_wayOf : CEv yX12_wayOf cX12_wayOf 7 (some (.int)) 12 5 := ⟨rfl, tb8 86 rfl rfl, tb8 85 rfl rfl, sl_in (n := 86) 80 (by decide +kernel), tb1 19 rfl rfl, ⟨by decide +kernel, by decide +kernel, by decide +kernel⟩⟩
theorem ce_Mod_begins : CEv yX12_begins cX12_begins 2 none 12 0 := ⟨rfl, tb6 127 rfl rfl, tb6 126 rfl rfl, sl_in (n := 86) 50 (by decide +kernel), tb1 19 rfl rfl, ⟨by decide +kernel, by decide +kernel, by decide +kernel⟩⟩
theorem ce_Mod_keepsRow : CEv yX12_keepsRow cX12_keepsRow 2 none 12 0 := ⟨rfl, tb6 131 rfl rfl, tb6 130 rfl rfl, sl_in (n := 86) 51 (by decide +kernel), tb1 19 rfl rfl, ⟨by decide +kernel, by decide +kernel, by decide +kernel⟩⟩
theorem ce_Mod_copies : CEv yX12_copies cX12_copies 2 none 12 0 := ⟨rfl, tb8 74 rfl rfl, tb8 73 rfl rfl, sl_in (n := 86) 77 (by decide +kernel), tb1 19 rfl rfl, ⟨by decide +kernel, by decide +kernel, by decide +kernel⟩⟩
theorem ce_Mod_comesAt : CEv yX12_comesAt cX12_comesAt 3 (some (.int)) 12 2 := ⟨rfl, tb8 82 rfl rfl, tb8 81 rfl rfl, sl_in (n := 86) 79 (by decide +kernel), tb1 19 rfl rfl, ⟨by decide +kernel, by decide +kernel, by decide +kernel⟩⟩
theorem ce_Mod_goesThere : CEv yX12_goesThere cX12_goesThere 4 none 12 3 := ⟨rfl, tb8 97 rfl rfl, tb8 96 rfl rfl, sl_in (n := 86) 82 (by decide +kernel), tb1 19 rfl rfl, ⟨by decide +kernel, by decide +kernel, by decide +kernel⟩⟩
theorem ce_Mod_sends : CEv yX12_sends cX12_sends 6 (some (.int)) 12 2 := ⟨rfl, tb8 78 rfl rfl, tb8 77 rfl rfl, sl_in (n := 86) 78 (by decide +kernel), tb1 19 rfl rfl, ⟨by decide +kernel, by decide +kernel, by decide +kernel⟩⟩
theorem ce_Mod_crosses : CEv yX12_crosses cX12_crosses 2 (some (.boolean)) 12 1 := ⟨rfl, tb8 109 rfl rfl, tb8 108 rfl rfl, sl_in (n := 86) 84 (by decide +kernel), tb1 19 rfl rfl, ⟨by decide +kernel, by decide +kernel, by decide +kernel⟩⟩
theorem ce_Mod_mendsOne : CEv yX12_mendsOne cX12_mendsOne 4 (some (.int)) 12 2 := ⟨rfl, tb8 117 rfl rfl, tb8 116 rfl rfl, sl_in (n := 86) 85 (by decide +kernel), tb1 19 rfl rfl, ⟨by decide +kernel, by decide +kernel, by decide +kernel⟩⟩
theorem ce_Mod_isSeen : CEv yX12_isSeen cX12_isSeen 3 (some (.boolean)) 12 2 := ⟨rfl, tb8 129 rfl rfl, tb8 128 rfl rfl, sl_in (n := 86) 86 (by decide +kernel), tb1 19 rfl rfl, ⟨by decide +kernel, by decide +kernel, by decide +kernel⟩⟩
theorem ce_Mod_photoOf : CEv yX12_photoOf cX12_photoOf 4 (some (.int)) 12 1 := ⟨rfl, tb8 137 rfl rfl, tb8 136 rfl rfl, sl_in (n := 86) 87 (by decide +kernel), tb1 19 rfl rfl, ⟨by decide +kernel, by decide +kernel, by decide +kernel⟩⟩
theorem ce_Mod_part : CEv yX12_part cX12_part 3 (some (.int)) 12 2 := ⟨rfl, tb8 23 rfl rfl, tb8 21 rfl rfl, tb8 22 rfl rfl, tb1 19 rfl rfl, ⟨by decide +kernel, by decide +kernel, by decide +kernel⟩⟩
theorem ce_Mod_worker : CEv yX12_worker cX12_worker 3 (some (.int)) 12 2 := ⟨rfl, tb8 31 rfl rfl, tb8 29 rfl rfl, tb8 30 rfl rfl, tb1 19 rfl rfl, ⟨by decide +kernel, by decide +kernel, by decide +kernel⟩⟩
theorem ce_Mod_isMinute : CEs yX12_isMinute cX12_isMinute 1 (some (.boolean)) 1 := ⟨tb8 42 rfl rfl, tb8 41 rfl rfl, tb1 19 rfl rfl, ⟨by decide +kernel, by decide +kernel, by decide +kernel⟩⟩
theorem ce_Mod_minute : CEv yX12_minute cX12_minute 3 (some (.int)) 12 2 := ⟨rfl, tb8 39 rfl rfl, tb8 37 rfl rfl, tb8 38 rfl rfl, tb1 19 rfl rfl, ⟨by decide +kernel, by decide +kernel, by decide +kernel⟩⟩
theorem ce_Mod_free : CEv yX12_free cX12_free 3 (some (.int)) 12 2 := ⟨rfl, tb8 46 rfl rfl, tb8 44 rfl rfl, tb8 45 rfl rfl, tb1 19 rfl rfl, ⟨by decide +kernel, by decide +kernel, by decide +kernel⟩⟩
theorem ce_Mod_dog : CEv yX12_dog cX12_dog 3 (some (.int)) 12 2 := ⟨rfl, tb8 50 rfl rfl, tb8 48 rfl rfl, tb8 49 rfl rfl, tb1 19 rfl rfl, ⟨by decide +kernel, by decide +kernel, by decide +kernel⟩⟩
theorem ce_Mod_when : CEv yX12_when cX12_when 3 (some (.int)) 12 2 := ⟨rfl, tb8 54 rfl rfl, tb8 52 rfl rfl, tb8 53 rfl rfl, tb1 19 rfl rfl, ⟨by decide +kernel, by decide +kernel, by decide +kernel⟩⟩
theorem ce_Mod_stays : CEv yX12_stays cX12_stays 4 (some (.int)) 12 2 := ⟨rfl, tb8 62 rfl rfl, tb8 60 rfl rfl, tb8 61 rfl rfl, tb1 19 rfl rfl, ⟨by decide +kernel, by decide +kernel, by decide +kernel⟩⟩
theorem ce_Mod_window : CEv yX12_window cX12_window 7 (some (.int)) 12 3 := ⟨rfl, tb8 66 rfl rfl, tb8 64 rfl rfl, tb8 65 rfl rfl, tb1 19 rfl rfl, ⟨by decide +kernel, by decide +kernel, by decide +kernel⟩⟩
theorem ce_Mod_keeps : CEv yX12_keeps cX12_keeps 5 none 12 3 := ⟨rfl, tb8 101 rfl rfl, tb8 100 rfl rfl, sl_in (n := 86) 83 (by decide +kernel), tb1 19 rfl rfl, ⟨by decide +kernel, by decide +kernel, by decide +kernel⟩⟩
theorem ce_Mod_send : CEv yX12_send cX12_send 4 (some (.int)) 12 2 := ⟨rfl, tb8 70 rfl rfl, tb8 68 rfl rfl, tb8 69 rfl rfl, tb1 19 rfl rfl, ⟨by decide +kernel, by decide +kernel, by decide +kernel⟩⟩
theorem ce_Mod_cross : CEv yX12_cross cX12_cross 2 (some (.boolean)) 12 1 := ⟨rfl, tb8 105 rfl rfl, tb8 103 rfl rfl, tb8 104 rfl rfl, tb1 19 rfl rfl, ⟨by decide +kernel, by decide +kernel, by decide +kernel⟩⟩
theorem ce_Mod_mend : CEv yX12_mend cX12_mend 4 (some (.int)) 12 2 := ⟨rfl, tb8 113 rfl rfl, tb8 111 rfl rfl, tb8 112 rfl rfl, tb1 19 rfl rfl, ⟨by decide +kernel, by decide +kernel, by decide +kernel⟩⟩
theorem ce_Mod_undo : CEv yX12_undo cX12_undo 2 (some (.boolean)) 12 0 := ⟨rfl, tb8 121 rfl rfl, tb8 119 rfl rfl, tb8 120 rfl rfl, tb1 19 rfl rfl, ⟨by decide +kernel, by decide +kernel, by decide +kernel⟩⟩
theorem ce_Mod_seen : CEv yX12_seen cX12_seen 4 (some (.int)) 12 1 := ⟨rfl, tb8 125 rfl rfl, tb8 123 rfl rfl, tb8 124 rfl rfl, tb1 19 rfl rfl, ⟨by decide +kernel, by decide +kernel, by decide +kernel⟩⟩
theorem ce_Mod_photo : CEv yX12_photo cX12_photo 2 (some (.int)) 12 1 := ⟨rfl, tb8 133 rfl rfl, tb8 131 rfl rfl, tb8 132 rfl rfl, tb1 19 rfl rfl, ⟨by decide +kernel, by decide +kernel, by decide +kernel⟩⟩
theorem ce_Mod_bestMinute : CEv yX12_bestMinute cX12_bestMinute 3 (some (.int)) 12 0 := ⟨rfl, tb8 141 rfl rfl, tb8 139 rfl rfl, tb8 140 rfl rfl, tb1 19 rfl rfl, ⟨by decide +kernel, by decide +kernel, by decide +kernel⟩⟩
theorem ce_Mod_stepTo : CEv yX12_stepTo cX12_stepTo 9 (some (.int)) 12 5 := ⟨rfl, tb8 176 rfl rfl, tb8 175 rfl rfl, sl_in (n := 86) 94 (by decide +kernel), tb1 19 rfl rfl, ⟨by decide +kernel, by decide +kernel, by decide +kernel⟩⟩
theorem ce_Mod_readyBehind : CEv yX12_readyBehind cX12_readyBehind 6 (some (.int)) 12 4 := ⟨rfl, tb8 172 rfl rfl, tb8 171 rfl rfl, sl_in (n := 86) 93 (by decide +kernel), tb1 19 rfl rfl, ⟨by decide +kernel, by decide +kernel, by decide +kernel⟩⟩
theorem ce_Mod_fillsRows : CEv yX12_fillsRows cX12_fillsRows 9 none 12 2 := ⟨rfl, tb8 168 rfl rfl, tb8 167 rfl rfl, sl_in (n := 86) 92 (by decide +kernel), tb1 19 rfl rfl, ⟨by decide +kernel, by decide +kernel, by decide +kernel⟩⟩
theorem ce_Mod_leastReady : CEv yX12_leastReady cX12_leastReady 4 (some (.int)) 12 1 := ⟨rfl, tb8 185 rfl rfl, tb8 184 rfl rfl, sl_in (n := 86) 96 (by decide +kernel), tb1 19 rfl rfl, ⟨by decide +kernel, by decide +kernel, by decide +kernel⟩⟩
theorem ce_Mod_canBy : CEv yX12_canBy cX12_canBy 3 (some (.boolean)) 12 2 := ⟨rfl, tb8 181 rfl rfl, tb8 180 rfl rfl, sl_in (n := 86) 95 (by decide +kernel), tb1 19 rfl rfl, ⟨by decide +kernel, by decide +kernel, by decide +kernel⟩⟩
theorem ce_Mod_worthBy : CEv yX12_worthBy cX12_worthBy 4 (some (.int)) 12 1 := ⟨rfl, tb8 189 rfl rfl, tb8 188 rfl rfl, sl_in (n := 86) 97 (by decide +kernel), tb1 19 rfl rfl, ⟨by decide +kernel, by decide +kernel, by decide +kernel⟩⟩
theorem ce_Mod_startsAs : CEv yX12_startsAs cX12_startsAs 3 none 12 2 := ⟨rfl, tb8 156 rfl rfl, tb8 155 rfl rfl, sl_in (n := 86) 89 (by decide +kernel), tb1 19 rfl rfl, ⟨by decide +kernel, by decide +kernel, by decide +kernel⟩⟩
theorem ce_Mod_neverDone : CEv yX12_neverDone cX12_neverDone 3 (some (.int)) 12 0 := ⟨rfl, tb8 160 rfl rfl, tb8 159 rfl rfl, sl_in (n := 86) 90 (by decide +kernel), tb1 19 rfl rfl, ⟨by decide +kernel, by decide +kernel, by decide +kernel⟩⟩
theorem ce_Mod_crossedNow : CEv yX12_crossedNow cX12_crossedNow 3 (some (.int)) 12 0 := ⟨rfl, tb8 208 rfl rfl, tb8 207 rfl rfl, sl_in (n := 86) 99 (by decide +kernel), tb1 19 rfl rfl, ⟨by decide +kernel, by decide +kernel, by decide +kernel⟩⟩
theorem ce_Mod_bestRow : CEv yX12_bestRow cX12_bestRow 7 (some (.int)) 12 3 := ⟨rfl, tb8 164 rfl rfl, tb8 163 rfl rfl, sl_in (n := 86) 91 (by decide +kernel), tb1 19 rfl rfl, ⟨by decide +kernel, by decide +kernel, by decide +kernel⟩⟩
theorem ce_Mod_planNow : CEv yX12_planNow cX12_planNow 4 (some (.int)) 12 3 := ⟨rfl, tb8 152 rfl rfl, tb8 151 rfl rfl, sl_in (n := 86) 88 (by decide +kernel), tb1 19 rfl rfl, ⟨by decide +kernel, by decide +kernel, by decide +kernel⟩⟩
theorem ce_Mod_isBy : CEs yX12_isBy cX12_isBy 1 (some (.boolean)) 1 := ⟨tb8 148 rfl rfl, tb8 147 rfl rfl, tb1 19 rfl rfl, ⟨by decide +kernel, by decide +kernel, by decide +kernel⟩⟩
theorem ce_Mod_plan : CEv yX12_plan cX12_plan 5 (some (.int)) 12 3 := ⟨rfl, tb8 145 rfl rfl, tb8 143 rfl rfl, tb8 144 rfl rfl, tb1 19 rfl rfl, ⟨by decide +kernel, by decide +kernel, by decide +kernel⟩⟩
theorem ce_Mod_bits : CEs yX12_bits cX12_bits 3 (some (.int)) 1 := ⟨tb8 200 rfl rfl, tb8 199 rfl rfl, tb1 19 rfl rfl, ⟨by decide +kernel, by decide +kernel, by decide +kernel⟩⟩
theorem ce_Mod_fillsPlan : CEv yX12_fillsPlan cX12_fillsPlan 8 none 12 2 := ⟨rfl, tb8 197 rfl rfl, tb8 196 rfl rfl, sl_in (n := 86) 98 (by decide +kernel), tb1 19 rfl rfl, ⟨by decide +kernel, by decide +kernel, by decide +kernel⟩⟩
theorem ce_Mod_planAt : CEv yX12_planAt cX12_planAt 4 (some (.int)) 12 3 := ⟨rfl, tb8 193 rfl rfl, tb8 191 rfl rfl, tb8 192 rfl rfl, tb1 19 rfl rfl, ⟨by decide +kernel, by decide +kernel, by decide +kernel⟩⟩
theorem ce_Mod_mends : CEv yX12_mends cX12_mends 5 (some (.int)) 12 3 := ⟨rfl, tb8 204 rfl rfl, tb8 202 rfl rfl, tb8 203 rfl rfl, tb1 19 rfl rfl, ⟨by decide +kernel, by decide +kernel, by decide +kernel⟩⟩
theorem ce_Mod_after : CEv yX12_after cX12_after 5 (some (.int)) 12 3 := ⟨rfl, tb8 212 rfl rfl, tb8 210 rfl rfl, tb8 211 rfl rfl, tb1 19 rfl rfl, ⟨by decide +kernel, by decide +kernel, by decide +kernel⟩⟩
theorem ce_Mod_spare : CEv yX12_spare cX12_spare 5 (some (.int)) 12 2 := ⟨rfl, tb8 216 rfl rfl, tb8 214 rfl rfl, tb8 215 rfl rfl, tb1 19 rfl rfl, ⟨by decide +kernel, by decide +kernel, by decide +kernel⟩⟩
theorem ce_Mod_quickest : CEv yX12_quickest cX12_quickest 7 (some (.int)) 12 2 := ⟨rfl, tb8 220 rfl rfl, tb8 218 rfl rfl, tb8 219 rfl rfl, tb1 19 rfl rfl, ⟨by decide +kernel, by decide +kernel, by decide +kernel⟩⟩
theorem ce_Mod_fillsCan : CEv yX12_fillsCan cX12_fillsCan 5 none 12 3 := ⟨rfl, tb8 228 rfl rfl, tb8 227 rfl rfl, sl_in (n := 86) 100 (by decide +kernel), tb1 19 rfl rfl, ⟨by decide +kernel, by decide +kernel, by decide +kernel⟩⟩
theorem ce_Mod_two : CEv yX12_two cX12_two 10 (some (.int)) 12 4 := ⟨rfl, tb8 224 rfl rfl, tb8 222 rfl rfl, tb8 223 rfl rfl, tb1 19 rfl rfl, ⟨by decide +kernel, by decide +kernel, by decide +kernel⟩⟩
theorem ce_Mod_sharesAll : CEv yX12_sharesAll cX12_sharesAll 4 none 12 0 := ⟨rfl, tb8 236 rfl rfl, tb8 235 rfl rfl, sl_in (n := 86) 101 (by decide +kernel), tb1 19 rfl rfl, ⟨by decide +kernel, by decide +kernel, by decide +kernel⟩⟩
theorem ce_Mod_hands : CEv yX12_hands cX12_hands 5 (some (.int)) 12 2 := ⟨rfl, tb8 232 rfl rfl, tb8 230 rfl rfl, tb8 231 rfl rfl, tb1 19 rfl rfl, ⟨by decide +kernel, by decide +kernel, by decide +kernel⟩⟩
theorem ce_Mod_isLarge : CEv yX12_isLarge cX12_isLarge 5 (some (.boolean)) 12 2 := ⟨rfl, tb9 4 rfl rfl, tb9 3 rfl rfl, sl_in (n := 86) 102 (by decide +kernel), tb1 19 rfl rfl, ⟨by decide +kernel, by decide +kernel, by decide +kernel⟩⟩
theorem ce_Mod_large : CEv yX12_large cX12_large 3 (some (.int)) 12 1 := ⟨rfl, tb9 0 rfl rfl, tb8 238 rfl rfl, tb8 239 rfl rfl, tb1 19 rfl rfl, ⟨by decide +kernel, by decide +kernel, by decide +kernel⟩⟩
theorem ce_Mod_mixed : CEs yX12_mixed cX12_mixed 3 (some (.int)) 2 := ⟨tb9 22 rfl rfl, tb9 21 rfl rfl, tb1 19 rfl rfl, ⟨by decide +kernel, by decide +kernel, by decide +kernel⟩⟩
theorem ce_Mod_lotOf : CEs yX12_lotOf cX12_lotOf 3 (some (.int)) 3 := ⟨tb9 19 rfl rfl, tb9 18 rfl rfl, tb1 19 rfl rfl, ⟨by decide +kernel, by decide +kernel, by decide +kernel⟩⟩
theorem ce_Mod_isRunOver : CEv yX12_isRunOver cX12_isRunOver 5 (some (.boolean)) 12 3 := ⟨rfl, tb9 16 rfl rfl, tb9 15 rfl rfl, sl_in (n := 86) 104 (by decide +kernel), tb1 19 rfl rfl, ⟨by decide +kernel, by decide +kernel, by decide +kernel⟩⟩
theorem ce_Mod_photoBy : CEv yX12_photoBy cX12_photoBy 5 (some (.int)) 12 2 := ⟨rfl, tb9 12 rfl rfl, tb9 11 rfl rfl, sl_in (n := 86) 103 (by decide +kernel), tb1 19 rfl rfl, ⟨by decide +kernel, by decide +kernel, by decide +kernel⟩⟩
theorem ce_Mod_hopes : CEv yX12_hopes cX12_hopes 6 (some (.int)) 12 3 := ⟨rfl, tb9 8 rfl rfl, tb9 6 rfl rfl, tb9 7 rfl rfl, tb1 19 rfl rfl, ⟨by decide +kernel, by decide +kernel, by decide +kernel⟩⟩
theorem ce_Mod_hope : CEv yX12_hope cX12_hope 5 (some (.int)) 12 2 := ⟨rfl, tb9 27 rfl rfl, tb9 25 rfl rfl, tb9 26 rfl rfl, tb1 19 rfl rfl, ⟨by decide +kernel, by decide +kernel, by decide +kernel⟩⟩
theorem ce_Mod_errorFrom : CEv yX12_errorFrom cX12_errorFrom 7 (some (.int)) 12 2 := ⟨rfl, tb9 39 rfl rfl, tb9 38 rfl rfl, sl_in (n := 86) 106 (by decide +kernel), tb1 19 rfl rfl, ⟨by decide +kernel, by decide +kernel, by decide +kernel⟩⟩
theorem ce_Mod_settles : CEv yX12_settles cX12_settles 8 none 12 0 := ⟨rfl, tb9 35 rfl rfl, tb9 34 rfl rfl, sl_in (n := 86) 105 (by decide +kernel), tb1 19 rfl rfl, ⟨by decide +kernel, by decide +kernel, by decide +kernel⟩⟩
theorem ce_Mod_error : CEv yX12_error cX12_error 3 (some (.int)) 12 2 := ⟨rfl, tb9 31 rfl rfl, tb9 29 rfl rfl, tb9 30 rfl rfl, tb1 19 rfl rfl, ⟨by decide +kernel, by decide +kernel, by decide +kernel⟩⟩
theorem ce_Mod_fails : CEv yX12_fails cX12_fails 4 (some (.int)) 12 1 := ⟨rfl, tb9 43 rfl rfl, tb9 41 rfl rfl, tb9 42 rfl rfl, tb1 19 rfl rfl, ⟨by decide +kernel, by decide +kernel, by decide +kernel⟩⟩
theorem ce_Mod_tell : CEv yX12_tell cX12_tell 4 (some (.int)) 12 3 := ⟨rfl, tb9 47 rfl rfl, tb9 45 rfl rfl, tb9 46 rfl rfl, tb1 19 rfl rfl, ⟨by decide +kernel, by decide +kernel, by decide +kernel⟩⟩
theorem ce_Mod_forget : CEv yX12_forget cX12_forget 2 (some (.int)) 12 0 := ⟨rfl, tb9 51 rfl rfl, tb9 49 rfl rfl, tb9 50 rfl rfl, tb1 19 rfl rfl, ⟨by decide +kernel, by decide +kernel, by decide +kernel⟩⟩
theorem ce_Mod_isSo : CEv yX12_isSo cX12_isSo 8 (some (.boolean)) 12 3 := ⟨rfl, tb9 59 rfl rfl, tb9 58 rfl rfl, sl_in (n := 86) 107 (by decide +kernel), tb1 19 rfl rfl, ⟨by decide +kernel, by decide +kernel, by decide +kernel⟩⟩
theorem ce_Mod_late : CEv yX12_late cX12_late 6 (some (.int)) 12 2 := ⟨rfl, tb9 55 rfl rfl, tb9 53 rfl rfl, tb9 54 rfl rfl, tb1 19 rfl rfl, ⟨by decide +kernel, by decide +kernel, by decide +kernel⟩⟩
theorem ce_Mod_hold : CEv yX12_hold cX12_hold 3 (some (.boolean)) 12 1 := ⟨rfl, tb9 63 rfl rfl, tb9 61 rfl rfl, tb9 62 rfl rfl, tb1 19 rfl rfl, ⟨by decide +kernel, by decide +kernel, by decide +kernel⟩⟩
theorem ce_Mod_restore : CEv yX12_restore cX12_restore 3 (some (.boolean)) 12 1 := ⟨rfl, tb9 67 rfl rfl, tb9 65 rfl rfl, tb9 66 rfl rfl, tb1 19 rfl rfl, ⟨by decide +kernel, by decide +kernel, by decide +kernel⟩⟩
theorem ce_Mod_count : CEv yX12_count cX12_count 4 (some (.int)) 12 1 := ⟨rfl, tb9 71 rfl rfl, tb9 69 rfl rfl, tb9 70 rfl rfl, tb1 19 rfl rfl, ⟨by decide +kernel, by decide +kernel, by decide +kernel⟩⟩
theorem ce_Intg_bitCount : CEs yJ6_bitCount_0f7a4 cJ6_bitCount_0f7a4 1 (some (.int)) 1 := ⟨tb5 101 rfl rfl, tb5 100 rfl rfl, tb1 21 rfl rfl, ⟨by decide +kernel, by decide +kernel, by decide +kernel⟩⟩
theorem ce_Arr_fill : CEs yJ7_fill_53178 cJ7_fill_53178 4 none 2 := ⟨tb3 172 rfl rfl, tb3 171 rfl rfl, tb1 18 rfl rfl, ⟨by decide +kernel, by decide +kernel, by decide +kernel⟩⟩
