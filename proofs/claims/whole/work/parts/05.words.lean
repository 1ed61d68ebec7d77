theorem jt {w : Cond} (i : Nat) (h : tables_1[i]? = some w) (hg : goodWord w = true) : w ∈ jtbl := jtbl_in (List.mem_append_right _ (List.mem_of_getElem? h)) hg
theorem jsel {y : MethodName} {n : Nat} (i : Nat) (h : lw_privs[i]? = some (y, n)) (hg : goodWord (Cond.selects y.cls y y) = true) : Cond.selects y.cls y y ∈ jtbl := jtbl_in (List.mem_append_left _ (List.mem_map.mpr ⟨(y, n), List.mem_of_getElem? h, rfl⟩)) hg
theorem jtm1 {w : Cond} (h : w ∈ tables_1_1) : w ∈ tables_1 := List.mem_append_left _ h
theorem jt1 {w : Cond} (i : Nat) (h : tables_1_1[i]? = some w) (hg : goodWord w = true) : w ∈ jtbl := jtbl_in (List.mem_append_right _ (jtm1 (List.mem_of_getElem? h))) hg
theorem jtm2 {w : Cond} (h : w ∈ tables_1_2) : w ∈ tables_1 := List.mem_append_right _ (List.mem_append_left _ h)
theorem jt2 {w : Cond} (i : Nat) (h : tables_1_2[i]? = some w) (hg : goodWord w = true) : w ∈ jtbl := jtbl_in (List.mem_append_right _ (jtm2 (List.mem_of_getElem? h))) hg
theorem jtm3 {w : Cond} (h : w ∈ tables_1_3) : w ∈ tables_1 := List.mem_append_right _ (List.mem_append_right _ (List.mem_append_left _ h))
theorem jt3 {w : Cond} (i : Nat) (h : tables_1_3[i]? = some w) (hg : goodWord w = true) : w ∈ jtbl := jtbl_in (List.mem_append_right _ (jtm3 (List.mem_of_getElem? h))) hg
theorem jtm4 {w : Cond} (h : w ∈ tables_1_4) : w ∈ tables_1 := List.mem_append_right _ (List.mem_append_right _ (List.mem_append_right _ (List.mem_append_left _ h)))
theorem jt4 {w : Cond} (i : Nat) (h : tables_1_4[i]? = some w) (hg : goodWord w = true) : w ∈ jtbl := jtbl_in (List.mem_append_right _ (jtm4 (List.mem_of_getElem? h))) hg
theorem jtm5 {w : Cond} (h : w ∈ tables_1_5) : w ∈ tables_1 := List.mem_append_right _ (List.mem_append_right _ (List.mem_append_right _ (List.mem_append_right _ (List.mem_append_left _ h))))
theorem jt5 {w : Cond} (i : Nat) (h : tables_1_5[i]? = some w) (hg : goodWord w = true) : w ∈ jtbl := jtbl_in (List.mem_append_right _ (jtm5 (List.mem_of_getElem? h))) hg
theorem jtm6 {w : Cond} (h : w ∈ tables_1_6) : w ∈ tables_1 := List.mem_append_right _ (List.mem_append_right _ (List.mem_append_right _ (List.mem_append_right _ (List.mem_append_right _ (List.mem_append_left _ h)))))
theorem jt6 {w : Cond} (i : Nat) (h : tables_1_6[i]? = some w) (hg : goodWord w = true) : w ∈ jtbl := jtbl_in (List.mem_append_right _ (jtm6 (List.mem_of_getElem? h))) hg
theorem jtm7 {w : Cond} (h : w ∈ tables_1_7) : w ∈ tables_1 := List.mem_append_right _ (List.mem_append_right _ (List.mem_append_right _ (List.mem_append_right _ (List.mem_append_right _ (List.mem_append_right _ (List.mem_append_left _ h))))))
theorem jt7 {w : Cond} (i : Nat) (h : tables_1_7[i]? = some w) (hg : goodWord w = true) : w ∈ jtbl := jtbl_in (List.mem_append_right _ (jtm7 (List.mem_of_getElem? h))) hg
theorem jtm8 {w : Cond} (h : w ∈ tables_1_8) : w ∈ tables_1 := List.mem_append_right _ (List.mem_append_right _ (List.mem_append_right _ (List.mem_append_right _ (List.mem_append_right _ (List.mem_append_right _ (List.mem_append_right _ (List.mem_append_left _ h)))))))
theorem jt8 {w : Cond} (i : Nat) (h : tables_1_8[i]? = some w) (hg : goodWord w = true) : w ∈ jtbl := jtbl_in (List.mem_append_right _ (jtm8 (List.mem_of_getElem? h))) hg
theorem jtm9 {w : Cond} (h : w ∈ tables_1_9) : w ∈ tables_1 := List.mem_append_right _ (List.mem_append_right _ (List.mem_append_right _ (List.mem_append_right _ (List.mem_append_right _ (List.mem_append_right _ (List.mem_append_right _ (List.mem_append_right _ (h))))))))
theorem jt9 {w : Cond} (i : Nat) (h : tables_1_9[i]? = some w) (hg : goodWord w = true) : w ∈ jtbl := jtbl_in (List.mem_append_right _ (jtm9 (List.mem_of_getElem? h))) hg
theorem jin0 : ∀ w ∈ u_ws RX0 TX0 8, w ∈ jtbl := by
  have h : (u_ws RX0 TX0 8) = ([438, 440, 442, 444, 446, 448, 450, 452] : List Nat).filterMap (fun i => tables_1[i]?) := by decide +kernel
  intro w hw
  have hg : (u_ws RX0 TX0 8).all goodWord = true := by decide +kernel
  have hg1 := List.all_eq_true.mp hg w hw
  rw [h] at hw
  obtain ⟨i, -, hi⟩ := List.mem_filterMap.mp hw
  exact jt i hi hg1
theorem jin1 : ∀ w ∈ u_ws RX1 TX1 10, w ∈ jtbl := by
  have h : (u_ws RX1 TX1 10) = ([375, 377, 379, 381, 383, 385, 387, 389, 391, 393] : List Nat).filterMap (fun i => tables_1[i]?) := by decide +kernel
  intro w hw
  have hg : (u_ws RX1 TX1 10).all goodWord = true := by decide +kernel
  have hg1 := List.all_eq_true.mp hg w hw
  rw [h] at hw
  obtain ⟨i, -, hi⟩ := List.mem_filterMap.mp hw
  exact jt i hi hg1
theorem jin2 : ∀ w ∈ u_ws RX2 TX2 6, w ∈ jtbl := by
  have h : (u_ws RX2 TX2 6) = ([471, 473, 475, 477, 479, 481] : List Nat).filterMap (fun i => tables_1[i]?) := by decide +kernel
  intro w hw
  have hg : (u_ws RX2 TX2 6).all goodWord = true := by decide +kernel
  have hg1 := List.all_eq_true.mp hg w hw
  rw [h] at hw
  obtain ⟨i, -, hi⟩ := List.mem_filterMap.mp hw
  exact jt i hi hg1
theorem jin3 : ∀ w ∈ u_ws RX3 TX3 10, w ∈ jtbl := by
  have h : (u_ws RX3 TX3 10) = ([290, 292, 294, 296, 298, 300, 302, 304, 306, 308] : List Nat).filterMap (fun i => tables_1[i]?) := by decide +kernel
  intro w hw
  have hg : (u_ws RX3 TX3 10).all goodWord = true := by decide +kernel
  have hg1 := List.all_eq_true.mp hg w hw
  rw [h] at hw
  obtain ⟨i, -, hi⟩ := List.mem_filterMap.mp hw
  exact jt i hi hg1
theorem jin4 : ∀ w ∈ u_ws RX4 TX4 4, w ∈ jtbl := by
  have h : (u_ws RX4 TX4 4) = ([319, 321, 323, 325] : List Nat).filterMap (fun i => tables_1[i]?) := by decide +kernel
  intro w hw
  have hg : (u_ws RX4 TX4 4).all goodWord = true := by decide +kernel
  have hg1 := List.all_eq_true.mp hg w hw
  rw [h] at hw
  obtain ⟨i, -, hi⟩ := List.mem_filterMap.mp hw
  exact jt i hi hg1
theorem jin5 : ∀ w ∈ u_ws RX5 TX5 13, w ∈ jtbl := by
  have h : (u_ws RX5 TX5 13) = ([91, 93, 95, 97, 99, 101, 103, 105, 107, 109, 111, 113, 115] : List Nat).filterMap (fun i => tables_1[i]?) := by decide +kernel
  intro w hw
  have hg : (u_ws RX5 TX5 13).all goodWord = true := by decide +kernel
  have hg1 := List.all_eq_true.mp hg w hw
  rw [h] at hw
  obtain ⟨i, -, hi⟩ := List.mem_filterMap.mp hw
  exact jt i hi hg1
theorem jin6 : ∀ w ∈ u_ws RX6 TX6 5, w ∈ jtbl := by
  have h : (u_ws RX6 TX6 5) = ([238, 240, 242, 244, 246] : List Nat).filterMap (fun i => tables_1[i]?) := by decide +kernel
  intro w hw
  have hg : (u_ws RX6 TX6 5).all goodWord = true := by decide +kernel
  have hg1 := List.all_eq_true.mp hg w hw
  rw [h] at hw
  obtain ⟨i, -, hi⟩ := List.mem_filterMap.mp hw
  exact jt i hi hg1
theorem jin7 : ∀ w ∈ u_ws RX7 TX7 14, w ∈ jtbl := by
  have h : (u_ws RX7 TX7 14) = ([202, 204, 206, 208, 210, 212, 214, 216, 218, 220, 222, 224, 226, 228] : List Nat).filterMap (fun i => tables_1[i]?) := by decide +kernel
  intro w hw
  have hg : (u_ws RX7 TX7 14).all goodWord = true := by decide +kernel
  have hg1 := List.all_eq_true.mp hg w hw
  rw [h] at hw
  obtain ⟨i, -, hi⟩ := List.mem_filterMap.mp hw
  exact jt i hi hg1
theorem jin8 : ∀ w ∈ u_ws RX8 TX8 7, w ∈ jtbl := by
  have h : (u_ws RX8 TX8 7) = ([405, 407, 409, 411, 413, 415, 417] : List Nat).filterMap (fun i => tables_1[i]?) := by decide +kernel
  intro w hw
  have hg : (u_ws RX8 TX8 7).all goodWord = true := by decide +kernel
  have hg1 := List.all_eq_true.mp hg w hw
  rw [h] at hw
  obtain ⟨i, -, hi⟩ := List.mem_filterMap.mp hw
  exact jt i hi hg1
theorem jin9 : ∀ w ∈ u_ws RX9 TX9 4, w ∈ jtbl := by
  have h : (u_ws RX9 TX9 4) = ([496, 498, 500, 502] : List Nat).filterMap (fun i => tables_1[i]?) := by decide +kernel
  intro w hw
  have hg : (u_ws RX9 TX9 4).all goodWord = true := by decide +kernel
  have hg1 := List.all_eq_true.mp hg w hw
  rw [h] at hw
  obtain ⟨i, -, hi⟩ := List.mem_filterMap.mp hw
  exact jt i hi hg1
theorem jin10 : ∀ w ∈ u_ws RX10 TX10 3, w ∈ jtbl := by
  have h : (u_ws RX10 TX10 3) = ([344, 346, 348] : List Nat).filterMap (fun i => tables_1[i]?) := by decide +kernel
  intro w hw
  have hg : (u_ws RX10 TX10 3).all goodWord = true := by decide +kernel
  have hg1 := List.all_eq_true.mp hg w hw
  rw [h] at hw
  obtain ⟨i, -, hi⟩ := List.mem_filterMap.mp hw
  exact jt i hi hg1
theorem jin11 : ∀ w ∈ u_ws RX11 TX11 17, w ∈ jtbl := by
  have h : (u_ws RX11 TX11 17) = ([522, 524, 526, 528, 530, 532, 534, 536, 538, 540, 542, 544, 546, 548, 550, 552, 554] : List Nat).filterMap (fun i => tables_1[i]?) := by decide +kernel
  intro w hw
  have hg : (u_ws RX11 TX11 17).all goodWord = true := by decide +kernel
  have hg1 := List.all_eq_true.mp hg w hw
  rw [h] at hw
  obtain ⟨i, -, hi⟩ := List.mem_filterMap.mp hw
  exact jt i hi hg1
theorem jin12 : ∀ w ∈ u_ws RX12 TX12 54, w ∈ jtbl := by
  have h : (u_ws RX12 TX12 54) = ([1362, 1364, 1366, 1368, 1370, 1372, 1374, 1376, 1378, 1380, 1382, 1384, 1386, 1388, 1390, 1392, 1394, 1396, 1398, 1400, 1402, 1404, 1406, 1408, 1410, 1412, 1414, 1416, 1418, 1420, 1422, 1424, 1426, 1428, 1430, 1432, 1434, 1436, 1438, 1440, 1442, 1444, 1446, 1448, 1450, 1452, 1454, 1456, 1458, 1460, 1462, 1464, 1466, 1468] : List Nat).filterMap (fun i => tables_1[i]?) := by decide +kernel
  intro w hw
  have hg : (u_ws RX12 TX12 54).all goodWord = true := by decide +kernel
  have hg1 := List.all_eq_true.mp hg w hw
  rw [h] at hw
  obtain ⟨i, -, hi⟩ := List.mem_filterMap.mp hw
  exact jt i hi hg1
set_option maxRecDepth 20000 in
theorem fl_X11_11 : jfl RX11 11 11 0 := ⟨(RX11, TX11, 17), rfl, rfl, by decide, rfl, jin11, jt3 25 rfl rfl⟩
set_option maxRecDepth 20000 in
theorem fl_X11_15 : jfl RX11 15 11 1 := ⟨(RX11, TX11, 17), rfl, rfl, by decide, rfl, jin11, jt3 26 rfl rfl⟩
set_option maxRecDepth 20000 in
theorem fl_X11_22 : jfl RX11 22 11 2 := ⟨(RX11, TX11, 17), rfl, rfl, by decide, rfl, jin11, jt3 27 rfl rfl⟩
set_option maxRecDepth 20000 in
theorem fl_X11_29 : jfl RX11 29 11 3 := ⟨(RX11, TX11, 17), rfl, rfl, by decide, rfl, jin11, jt3 28 rfl rfl⟩
set_option maxRecDepth 20000 in
theorem fl_X11_36 : jfl RX11 36 11 4 := ⟨(RX11, TX11, 17), rfl, rfl, by decide, rfl, jin11, jt3 29 rfl rfl⟩
set_option maxRecDepth 20000 in
theorem fl_X11_40 : jfl RX11 40 11 5 := ⟨(RX11, TX11, 17), rfl, rfl, by decide, rfl, jin11, jt3 30 rfl rfl⟩
set_option maxRecDepth 20000 in
theorem fl_X11_47 : jfl RX11 47 11 6 := ⟨(RX11, TX11, 17), rfl, rfl, by decide, rfl, jin11, jt3 31 rfl rfl⟩
set_option maxRecDepth 20000 in
theorem fl_X11_54 : jfl RX11 54 11 7 := ⟨(RX11, TX11, 17), rfl, rfl, by decide, rfl, jin11, jt3 32 rfl rfl⟩
set_option maxRecDepth 20000 in
theorem fl_X11_61 : jfl RX11 61 11 8 := ⟨(RX11, TX11, 17), rfl, rfl, by decide, rfl, jin11, jt3 33 rfl rfl⟩
set_option maxRecDepth 20000 in
theorem fl_X11_65 : jfl RX11 65 11 9 := ⟨(RX11, TX11, 17), rfl, rfl, by decide, rfl, jin11, jt3 34 rfl rfl⟩
set_option maxRecDepth 20000 in
theorem fl_X11_69 : jfl RX11 69 11 10 := ⟨(RX11, TX11, 17), rfl, rfl, by decide, rfl, jin11, jt3 35 rfl rfl⟩
set_option maxRecDepth 20000 in
theorem fl_X11_72 : jfl RX11 72 11 11 := ⟨(RX11, TX11, 17), rfl, rfl, by decide, rfl, jin11, jt3 36 rfl rfl⟩
set_option maxRecDepth 20000 in
theorem fl_X11_75 : jfl RX11 75 11 12 := ⟨(RX11, TX11, 17), rfl, rfl, by decide, rfl, jin11, jt3 37 rfl rfl⟩
set_option maxRecDepth 20000 in
theorem fl_X11_79 : jfl RX11 79 11 13 := ⟨(RX11, TX11, 17), rfl, rfl, by decide, rfl, jin11, jt3 38 rfl rfl⟩
set_option maxRecDepth 20000 in
theorem fl_X11_83 : jfl RX11 83 11 16 := ⟨(RX11, TX11, 17), rfl, rfl, by decide, rfl, jin11, jt3 41 rfl rfl⟩
set_option maxRecDepth 20000 in
theorem fl_X11_110 : jfl RX11 110 9 3 := ⟨(RX9, TX9, 4), rfl, rfl, by decide, rfl, jin9, jt3 15 rfl rfl⟩
set_option maxRecDepth 20000 in
theorem fl_X11_113 : jfl RX11 113 9 0 := ⟨(RX9, TX9, 4), rfl, rfl, by decide, rfl, jin9, jt3 10 rfl rfl⟩
set_option maxRecDepth 20000 in
theorem fl_X11_117 : jfl RX11 117 9 1 := ⟨(RX9, TX9, 4), rfl, rfl, by decide, rfl, jin9, jt3 12 rfl rfl⟩
set_option maxRecDepth 20000 in
theorem fl_X11_130 : jfl RX11 130 11 14 := ⟨(RX11, TX11, 17), rfl, rfl, by decide, rfl, jin11, jt3 39 rfl rfl⟩
set_option maxRecDepth 20000 in
theorem fl_X11_141 : jfl RX11 141 6 1 := ⟨(RX6, TX6, 5), rfl, rfl, by decide, rfl, jin6, jt1 234 rfl rfl⟩
set_option maxRecDepth 20000 in
theorem fl_X11_149 : jfl RX11 149 6 0 := ⟨(RX6, TX6, 5), rfl, rfl, by decide, rfl, jin6, jt1 232 rfl rfl⟩
set_option maxRecDepth 20000 in
theorem fl_X11_157 : jfl RX11 157 10 0 := ⟨(RX10, TX10, 3), rfl, rfl, by decide, rfl, jin10, jt2 99 rfl rfl⟩
set_option maxRecDepth 20000 in
theorem fl_X11_160 : jfl RX11 160 5 2 := ⟨(RX5, TX5, 13), rfl, rfl, by decide, rfl, jin5, jt1 56 rfl rfl⟩
set_option maxRecDepth 20000 in
theorem fl_X11_172 : jfl RX11 172 4 1 := ⟨(RX4, TX4, 4), rfl, rfl, by decide, rfl, jin4, jt2 76 rfl rfl⟩
set_option maxRecDepth 20000 in
theorem fl_X11_173 : jfl RX11 173 10 2 := ⟨(RX10, TX10, 3), rfl, rfl, by decide, rfl, jin10, jt2 103 rfl rfl⟩
set_option maxRecDepth 20000 in
theorem fl_X11_177 : jfl RX11 177 4 0 := ⟨(RX4, TX4, 4), rfl, rfl, by decide, rfl, jin4, jt2 74 rfl rfl⟩
set_option maxRecDepth 20000 in
theorem fl_X11_185 : jfl RX11 185 3 1 := ⟨(RX3, TX3, 10), rfl, rfl, by decide, rfl, jin3, jt2 25 rfl rfl⟩
set_option maxRecDepth 20000 in
theorem fl_X11_188 : jfl RX11 188 5 0 := ⟨(RX5, TX5, 13), rfl, rfl, by decide, rfl, jin5, jt1 47 rfl rfl⟩
set_option maxRecDepth 20000 in
theorem fl_X11_191 : jfl RX11 191 5 1 := ⟨(RX5, TX5, 13), rfl, rfl, by decide, rfl, jin5, jt1 51 rfl rfl⟩
set_option maxRecDepth 20000 in
theorem fl_X11_194 : jfl RX11 194 5 3 := ⟨(RX5, TX5, 13), rfl, rfl, by decide, rfl, jin5, jt1 61 rfl rfl⟩
set_option maxRecDepth 20000 in
theorem fl_X11_200 : jfl RX11 200 5 5 := ⟨(RX5, TX5, 13), rfl, rfl, by decide, rfl, jin5, jt1 68 rfl rfl⟩
set_option maxRecDepth 20000 in
theorem fl_X11_203 : jfl RX11 203 5 6 := ⟨(RX5, TX5, 13), rfl, rfl, by decide, rfl, jin5, jt1 73 rfl rfl⟩
set_option maxRecDepth 20000 in
theorem fl_X11_206 : jfl RX11 206 5 7 := ⟨(RX5, TX5, 13), rfl, rfl, by decide, rfl, jin5, jt1 77 rfl rfl⟩
set_option maxRecDepth 20000 in
theorem fl_X11_212 : jfl RX11 212 5 9 := ⟨(RX5, TX5, 13), rfl, rfl, by decide, rfl, jin5, jt1 84 rfl rfl⟩
set_option maxRecDepth 20000 in
theorem fl_X11_224 : jfl RX11 224 5 10 := ⟨(RX5, TX5, 13), rfl, rfl, by decide, rfl, jin5, jt1 88 rfl rfl⟩
set_option maxRecDepth 20000 in
theorem fl_X11_230 : jfl RX11 230 10 1 := ⟨(RX10, TX10, 3), rfl, rfl, by decide, rfl, jin10, jt2 101 rfl rfl⟩
set_option maxRecDepth 20000 in
theorem fl_X11_266 : jfl RX11 266 8 0 := ⟨(RX8, TX8, 7), rfl, rfl, by decide, rfl, jin8, jt2 157 rfl rfl⟩
set_option maxRecDepth 20000 in
theorem fl_X11_272 : jfl RX11 272 8 1 := ⟨(RX8, TX8, 7), rfl, rfl, by decide, rfl, jin8, jt2 159 rfl rfl⟩
set_option maxRecDepth 20000 in
theorem fl_X11_323 : jfl RX11 323 0 0 := ⟨(RX0, TX0, 8), rfl, rfl, by decide, rfl, jin0, jt2 187 rfl rfl⟩
set_option maxRecDepth 20000 in
theorem fl_X11_326 : jfl RX11 326 0 1 := ⟨(RX0, TX0, 8), rfl, rfl, by decide, rfl, jin0, jt2 189 rfl rfl⟩
set_option maxRecDepth 20000 in
theorem fl_X11_361 : jfl RX11 361 0 3 := ⟨(RX0, TX0, 8), rfl, rfl, by decide, rfl, jin0, jt2 193 rfl rfl⟩
set_option maxRecDepth 20000 in
theorem fl_X11_364 : jfl RX11 364 0 2 := ⟨(RX0, TX0, 8), rfl, rfl, by decide, rfl, jin0, jt2 191 rfl rfl⟩
set_option maxRecDepth 20000 in
theorem fl_X11_382 : jfl RX11 382 3 0 := ⟨(RX3, TX3, 10), rfl, rfl, by decide, rfl, jin3, jt2 22 rfl rfl⟩
set_option maxRecDepth 20000 in
theorem fl_X11_387 : jfl RX11 387 2 1 := ⟨(RX2, TX2, 6), rfl, rfl, by decide, rfl, jin2, jt2 224 rfl rfl⟩
set_option maxRecDepth 20000 in
theorem fl_X11_390 : jfl RX11 390 2 2 := ⟨(RX2, TX2, 6), rfl, rfl, by decide, rfl, jin2, jt2 226 rfl rfl⟩
set_option maxRecDepth 20000 in
theorem fl_X11_393 : jfl RX11 393 2 3 := ⟨(RX2, TX2, 6), rfl, rfl, by decide, rfl, jin2, jt2 228 rfl rfl⟩
set_option maxRecDepth 20000 in
theorem fl_X11_396 : jfl RX11 396 2 0 := ⟨(RX2, TX2, 6), rfl, rfl, by decide, rfl, jin2, jt2 222 rfl rfl⟩
set_option maxRecDepth 20000 in
theorem fl_X11_397 : jfl RX11 397 11 15 := ⟨(RX11, TX11, 17), rfl, rfl, by decide, rfl, jin11, jt3 40 rfl rfl⟩
set_option maxRecDepth 20000 in
theorem fl_X11_403 : jfl RX11 403 7 6 := ⟨(RX7, TX7, 14), rfl, rfl, by decide, rfl, jin7, jt1 193 rfl rfl⟩
set_option maxRecDepth 20000 in
theorem fl_X11_408 : jfl RX11 408 7 7 := ⟨(RX7, TX7, 14), rfl, rfl, by decide, rfl, jin7, jt1 195 rfl rfl⟩
set_option maxRecDepth 20000 in
theorem fl_X0_9 : jfl RX0 9 0 0 := ⟨(RX0, TX0, 8), rfl, rfl, by decide, rfl, jin0, jt2 186 rfl rfl⟩
set_option maxRecDepth 20000 in
theorem fl_X0_15 : jfl RX0 15 0 1 := ⟨(RX0, TX0, 8), rfl, rfl, by decide, rfl, jin0, jt2 188 rfl rfl⟩
set_option maxRecDepth 20000 in
theorem fl_X0_18 : jfl RX0 18 0 2 := ⟨(RX0, TX0, 8), rfl, rfl, by decide, rfl, jin0, jt2 190 rfl rfl⟩
set_option maxRecDepth 20000 in
theorem fl_X0_21 : jfl RX0 21 0 4 := ⟨(RX0, TX0, 8), rfl, rfl, by decide, rfl, jin0, jt2 194 rfl rfl⟩
set_option maxRecDepth 20000 in
theorem fl_X0_24 : jfl RX0 24 0 5 := ⟨(RX0, TX0, 8), rfl, rfl, by decide, rfl, jin0, jt2 195 rfl rfl⟩
set_option maxRecDepth 20000 in
theorem fl_X0_27 : jfl RX0 27 0 6 := ⟨(RX0, TX0, 8), rfl, rfl, by decide, rfl, jin0, jt2 196 rfl rfl⟩
set_option maxRecDepth 20000 in
theorem fl_X0_30 : jfl RX0 30 0 7 := ⟨(RX0, TX0, 8), rfl, rfl, by decide, rfl, jin0, jt2 197 rfl rfl⟩
set_option maxRecDepth 20000 in
theorem fl_X0_33 : jfl RX0 33 5 9 := ⟨(RX5, TX5, 13), rfl, rfl, by decide, rfl, jin5, jt1 81 rfl rfl⟩
set_option maxRecDepth 20000 in
theorem fl_X0_50 : jfl RX0 50 5 3 := ⟨(RX5, TX5, 13), rfl, rfl, by decide, rfl, jin5, jt1 59 rfl rfl⟩
set_option maxRecDepth 20000 in
theorem fl_X0_68 : jfl RX0 68 5 2 := ⟨(RX5, TX5, 13), rfl, rfl, by decide, rfl, jin5, jt1 53 rfl rfl⟩
set_option maxRecDepth 20000 in
theorem fl_X0_97 : jfl RX0 97 0 3 := ⟨(RX0, TX0, 8), rfl, rfl, by decide, rfl, jin0, jt2 192 rfl rfl⟩
set_option maxRecDepth 20000 in
theorem fl_X1_9 : jfl RX1 9 1 1 := ⟨(RX1, TX1, 10), rfl, rfl, by decide, rfl, jin1, jt2 126 rfl rfl⟩
set_option maxRecDepth 20000 in
theorem fl_X1_15 : jfl RX1 15 1 2 := ⟨(RX1, TX1, 10), rfl, rfl, by decide, rfl, jin1, jt2 127 rfl rfl⟩
set_option maxRecDepth 20000 in
theorem fl_X1_18 : jfl RX1 18 1 4 := ⟨(RX1, TX1, 10), rfl, rfl, by decide, rfl, jin1, jt2 129 rfl rfl⟩
set_option maxRecDepth 20000 in
theorem fl_X1_22 : jfl RX1 22 1 7 := ⟨(RX1, TX1, 10), rfl, rfl, by decide, rfl, jin1, jt2 132 rfl rfl⟩
set_option maxRecDepth 20000 in
theorem fl_X1_25 : jfl RX1 25 1 8 := ⟨(RX1, TX1, 10), rfl, rfl, by decide, rfl, jin1, jt2 133 rfl rfl⟩
set_option maxRecDepth 20000 in
theorem fl_X1_28 : jfl RX1 28 1 9 := ⟨(RX1, TX1, 10), rfl, rfl, by decide, rfl, jin1, jt2 134 rfl rfl⟩
set_option maxRecDepth 20000 in
theorem fl_X1_31 : jfl RX1 31 1 3 := ⟨(RX1, TX1, 10), rfl, rfl, by decide, rfl, jin1, jt2 128 rfl rfl⟩
set_option maxRecDepth 20000 in
theorem fl_X1_35 : jfl RX1 35 1 0 := ⟨(RX1, TX1, 10), rfl, rfl, by decide, rfl, jin1, jt2 124 rfl rfl⟩
set_option maxRecDepth 20000 in
theorem fl_X1_50 : jfl RX1 50 1 6 := ⟨(RX1, TX1, 10), rfl, rfl, by decide, rfl, jin1, jt2 131 rfl rfl⟩
set_option maxRecDepth 20000 in
theorem fl_X1_62 : jfl RX1 62 1 5 := ⟨(RX1, TX1, 10), rfl, rfl, by decide, rfl, jin1, jt2 130 rfl rfl⟩
set_option maxRecDepth 20000 in
theorem fl_X2_9 : jfl RX2 9 2 4 := ⟨(RX2, TX2, 6), rfl, rfl, by decide, rfl, jin2, jt2 229 rfl rfl⟩
set_option maxRecDepth 20000 in
theorem fl_X2_15 : jfl RX2 15 2 0 := ⟨(RX2, TX2, 6), rfl, rfl, by decide, rfl, jin2, jt2 221 rfl rfl⟩
set_option maxRecDepth 20000 in
theorem fl_X2_19 : jfl RX2 19 2 1 := ⟨(RX2, TX2, 6), rfl, rfl, by decide, rfl, jin2, jt2 223 rfl rfl⟩
set_option maxRecDepth 20000 in
theorem fl_X2_22 : jfl RX2 22 2 2 := ⟨(RX2, TX2, 6), rfl, rfl, by decide, rfl, jin2, jt2 225 rfl rfl⟩
set_option maxRecDepth 20000 in
theorem fl_X2_25 : jfl RX2 25 2 3 := ⟨(RX2, TX2, 6), rfl, rfl, by decide, rfl, jin2, jt2 227 rfl rfl⟩
set_option maxRecDepth 20000 in
theorem fl_X2_28 : jfl RX2 28 2 5 := ⟨(RX2, TX2, 6), rfl, rfl, by decide, rfl, jin2, jt2 230 rfl rfl⟩
set_option maxRecDepth 20000 in
theorem fl_X2_32 : jfl RX2 32 3 2 := ⟨(RX3, TX3, 10), rfl, rfl, by decide, rfl, jin3, jt2 27 rfl rfl⟩
set_option maxRecDepth 20000 in
theorem fl_X2_37 : jfl RX2 37 3 3 := ⟨(RX3, TX3, 10), rfl, rfl, by decide, rfl, jin3, jt2 30 rfl rfl⟩
set_option maxRecDepth 20000 in
theorem fl_X2_48 : jfl RX2 48 3 9 := ⟨(RX3, TX3, 10), rfl, rfl, by decide, rfl, jin3, jt2 48 rfl rfl⟩
set_option maxRecDepth 20000 in
theorem fl_X2_51 : jfl RX2 51 3 5 := ⟨(RX3, TX3, 10), rfl, rfl, by decide, rfl, jin3, jt2 36 rfl rfl⟩
set_option maxRecDepth 20000 in
theorem fl_X2_60 : jfl RX2 60 3 8 := ⟨(RX3, TX3, 10), rfl, rfl, by decide, rfl, jin3, jt2 45 rfl rfl⟩
set_option maxRecDepth 20000 in
theorem fl_X2_70 : jfl RX2 70 5 2 := ⟨(RX5, TX5, 13), rfl, rfl, by decide, rfl, jin5, jt1 54 rfl rfl⟩
set_option maxRecDepth 20000 in
theorem fl_X2_87 : jfl RX2 87 3 7 := ⟨(RX3, TX3, 10), rfl, rfl, by decide, rfl, jin3, jt2 42 rfl rfl⟩
set_option maxRecDepth 20000 in
theorem fl_X2_90 : jfl RX2 90 3 4 := ⟨(RX3, TX3, 10), rfl, rfl, by decide, rfl, jin3, jt2 33 rfl rfl⟩
set_option maxRecDepth 20000 in
theorem fl_X2_97 : jfl RX2 97 3 6 := ⟨(RX3, TX3, 10), rfl, rfl, by decide, rfl, jin3, jt2 39 rfl rfl⟩
set_option maxRecDepth 20000 in
theorem fl_X3_9 : jfl RX3 9 3 3 := ⟨(RX3, TX3, 10), rfl, rfl, by decide, rfl, jin3, jt2 29 rfl rfl⟩
set_option maxRecDepth 20000 in
theorem fl_X3_15 : jfl RX3 15 3 4 := ⟨(RX3, TX3, 10), rfl, rfl, by decide, rfl, jin3, jt2 32 rfl rfl⟩
set_option maxRecDepth 20000 in
theorem fl_X3_18 : jfl RX3 18 3 5 := ⟨(RX3, TX3, 10), rfl, rfl, by decide, rfl, jin3, jt2 35 rfl rfl⟩
set_option maxRecDepth 20000 in
theorem fl_X3_21 : jfl RX3 21 3 6 := ⟨(RX3, TX3, 10), rfl, rfl, by decide, rfl, jin3, jt2 38 rfl rfl⟩
set_option maxRecDepth 20000 in
theorem fl_X3_24 : jfl RX3 24 3 7 := ⟨(RX3, TX3, 10), rfl, rfl, by decide, rfl, jin3, jt2 41 rfl rfl⟩
set_option maxRecDepth 20000 in
theorem fl_X3_27 : jfl RX3 27 3 8 := ⟨(RX3, TX3, 10), rfl, rfl, by decide, rfl, jin3, jt2 44 rfl rfl⟩
set_option maxRecDepth 20000 in
theorem fl_X3_30 : jfl RX3 30 3 9 := ⟨(RX3, TX3, 10), rfl, rfl, by decide, rfl, jin3, jt2 47 rfl rfl⟩
set_option maxRecDepth 20000 in
theorem fl_X3_33 : jfl RX3 33 3 0 := ⟨(RX3, TX3, 10), rfl, rfl, by decide, rfl, jin3, jt2 21 rfl rfl⟩
set_option maxRecDepth 20000 in
theorem fl_X3_37 : jfl RX3 37 3 1 := ⟨(RX3, TX3, 10), rfl, rfl, by decide, rfl, jin3, jt2 23 rfl rfl⟩
set_option maxRecDepth 20000 in
theorem fl_X3_41 : jfl RX3 41 3 2 := ⟨(RX3, TX3, 10), rfl, rfl, by decide, rfl, jin3, jt2 26 rfl rfl⟩
set_option maxRecDepth 20000 in
theorem fl_X4_12 : jfl RX4 12 4 0 := ⟨(RX4, TX4, 4), rfl, rfl, by decide, rfl, jin4, jt2 73 rfl rfl⟩
set_option maxRecDepth 20000 in
theorem fl_X4_21 : jfl RX4 21 4 1 := ⟨(RX4, TX4, 4), rfl, rfl, by decide, rfl, jin4, jt2 75 rfl rfl⟩
set_option maxRecDepth 20000 in
theorem fl_X4_25 : jfl RX4 25 4 2 := ⟨(RX4, TX4, 4), rfl, rfl, by decide, rfl, jin4, jt2 77 rfl rfl⟩
set_option maxRecDepth 20000 in
theorem fl_X4_29 : jfl RX4 29 4 3 := ⟨(RX4, TX4, 4), rfl, rfl, by decide, rfl, jin4, jt2 78 rfl rfl⟩
set_option maxRecDepth 20000 in
theorem fl_X4_40 : jfl RX4 40 7 0 := ⟨(RX7, TX7, 14), rfl, rfl, by decide, rfl, jin7, jt1 176 rfl rfl⟩
set_option maxRecDepth 20000 in
theorem fl_X4_43 : jfl RX4 43 7 3 := ⟨(RX7, TX7, 14), rfl, rfl, by decide, rfl, jin7, jt1 183 rfl rfl⟩
set_option maxRecDepth 20000 in
theorem fl_X4_64 : jfl RX4 64 3 2 := ⟨(RX3, TX3, 10), rfl, rfl, by decide, rfl, jin3, jt2 28 rfl rfl⟩
set_option maxRecDepth 20000 in
theorem fl_X4_67 : jfl RX4 67 3 3 := ⟨(RX3, TX3, 10), rfl, rfl, by decide, rfl, jin3, jt2 31 rfl rfl⟩
set_option maxRecDepth 20000 in
theorem fl_X4_70 : jfl RX4 70 3 9 := ⟨(RX3, TX3, 10), rfl, rfl, by decide, rfl, jin3, jt2 49 rfl rfl⟩
set_option maxRecDepth 20000 in
theorem fl_X4_76 : jfl RX4 76 3 1 := ⟨(RX3, TX3, 10), rfl, rfl, by decide, rfl, jin3, jt2 24 rfl rfl⟩
set_option maxRecDepth 20000 in
theorem fl_X4_96 : jfl RX4 96 5 0 := ⟨(RX5, TX5, 13), rfl, rfl, by decide, rfl, jin5, jt1 46 rfl rfl⟩
set_option maxRecDepth 20000 in
theorem fl_X4_105 : jfl RX4 105 7 5 := ⟨(RX7, TX7, 14), rfl, rfl, by decide, rfl, jin7, jt1 190 rfl rfl⟩
set_option maxRecDepth 20000 in
theorem fl_X4_108 : jfl RX4 108 5 1 := ⟨(RX5, TX5, 13), rfl, rfl, by decide, rfl, jin5, jt1 50 rfl rfl⟩
set_option maxRecDepth 20000 in
theorem fl_X4_109 : jfl RX4 109 3 5 := ⟨(RX3, TX3, 10), rfl, rfl, by decide, rfl, jin3, jt2 37 rfl rfl⟩
set_option maxRecDepth 20000 in
theorem fl_X4_112 : jfl RX4 112 3 8 := ⟨(RX3, TX3, 10), rfl, rfl, by decide, rfl, jin3, jt2 46 rfl rfl⟩
set_option maxRecDepth 20000 in
theorem fl_X4_115 : jfl RX4 115 3 4 := ⟨(RX3, TX3, 10), rfl, rfl, by decide, rfl, jin3, jt2 34 rfl rfl⟩
set_option maxRecDepth 20000 in
theorem fl_X4_130 : jfl RX4 130 7 4 := ⟨(RX7, TX7, 14), rfl, rfl, by decide, rfl, jin7, jt1 188 rfl rfl⟩
set_option maxRecDepth 20000 in
theorem fl_X4_138 : jfl RX4 138 3 6 := ⟨(RX3, TX3, 10), rfl, rfl, by decide, rfl, jin3, jt2 40 rfl rfl⟩
set_option maxRecDepth 20000 in
theorem fl_X4_144 : jfl RX4 144 3 7 := ⟨(RX3, TX3, 10), rfl, rfl, by decide, rfl, jin3, jt2 43 rfl rfl⟩
set_option maxRecDepth 20000 in
theorem fl_X5_9 : jfl RX5 9 5 5 := ⟨(RX5, TX5, 13), rfl, rfl, by decide, rfl, jin5, jt1 65 rfl rfl⟩
set_option maxRecDepth 20000 in
theorem fl_X5_15 : jfl RX5 15 5 6 := ⟨(RX5, TX5, 13), rfl, rfl, by decide, rfl, jin5, jt1 69 rfl rfl⟩
set_option maxRecDepth 20000 in
theorem fl_X5_18 : jfl RX5 18 5 7 := ⟨(RX5, TX5, 13), rfl, rfl, by decide, rfl, jin5, jt1 74 rfl rfl⟩
set_option maxRecDepth 20000 in
theorem fl_X5_21 : jfl RX5 21 5 8 := ⟨(RX5, TX5, 13), rfl, rfl, by decide, rfl, jin5, jt1 78 rfl rfl⟩
set_option maxRecDepth 20000 in
theorem fl_X5_25 : jfl RX5 25 5 9 := ⟨(RX5, TX5, 13), rfl, rfl, by decide, rfl, jin5, jt1 80 rfl rfl⟩
set_option maxRecDepth 20000 in
theorem fl_X5_28 : jfl RX5 28 5 10 := ⟨(RX5, TX5, 13), rfl, rfl, by decide, rfl, jin5, jt1 85 rfl rfl⟩
set_option maxRecDepth 20000 in
theorem fl_X5_31 : jfl RX5 31 5 11 := ⟨(RX5, TX5, 13), rfl, rfl, by decide, rfl, jin5, jt1 89 rfl rfl⟩
set_option maxRecDepth 20000 in
theorem fl_X5_34 : jfl RX5 34 5 12 := ⟨(RX5, TX5, 13), rfl, rfl, by decide, rfl, jin5, jt1 90 rfl rfl⟩
set_option maxRecDepth 20000 in
theorem fl_X5_37 : jfl RX5 37 5 0 := ⟨(RX5, TX5, 13), rfl, rfl, by decide, rfl, jin5, jt1 44 rfl rfl⟩
set_option maxRecDepth 20000 in
theorem fl_X5_41 : jfl RX5 41 5 1 := ⟨(RX5, TX5, 13), rfl, rfl, by decide, rfl, jin5, jt1 48 rfl rfl⟩
set_option maxRecDepth 20000 in
theorem fl_X5_44 : jfl RX5 44 5 2 := ⟨(RX5, TX5, 13), rfl, rfl, by decide, rfl, jin5, jt1 52 rfl rfl⟩
set_option maxRecDepth 20000 in
theorem fl_X5_47 : jfl RX5 47 5 3 := ⟨(RX5, TX5, 13), rfl, rfl, by decide, rfl, jin5, jt1 57 rfl rfl⟩
set_option maxRecDepth 20000 in
theorem fl_X5_50 : jfl RX5 50 5 4 := ⟨(RX5, TX5, 13), rfl, rfl, by decide, rfl, jin5, jt1 63 rfl rfl⟩
set_option maxRecDepth 20000 in
theorem fl_X6_12 : jfl RX6 12 6 0 := ⟨(RX6, TX6, 5), rfl, rfl, by decide, rfl, jin6, jt1 231 rfl rfl⟩
set_option maxRecDepth 20000 in
theorem fl_X6_21 : jfl RX6 21 6 1 := ⟨(RX6, TX6, 5), rfl, rfl, by decide, rfl, jin6, jt1 233 rfl rfl⟩
set_option maxRecDepth 20000 in
theorem fl_X6_29 : jfl RX6 29 6 2 := ⟨(RX6, TX6, 5), rfl, rfl, by decide, rfl, jin6, jt1 235 rfl rfl⟩
set_option maxRecDepth 20000 in
theorem fl_X6_33 : jfl RX6 33 6 3 := ⟨(RX6, TX6, 5), rfl, rfl, by decide, rfl, jin6, jt1 236 rfl rfl⟩
set_option maxRecDepth 20000 in
theorem fl_X6_36 : jfl RX6 36 6 4 := ⟨(RX6, TX6, 5), rfl, rfl, by decide, rfl, jin6, jt1 237 rfl rfl⟩
set_option maxRecDepth 20000 in
theorem fl_X6_43 : jfl RX6 43 7 0 := ⟨(RX7, TX7, 14), rfl, rfl, by decide, rfl, jin7, jt1 177 rfl rfl⟩
set_option maxRecDepth 20000 in
theorem fl_X6_57 : jfl RX6 57 7 5 := ⟨(RX7, TX7, 14), rfl, rfl, by decide, rfl, jin7, jt1 189 rfl rfl⟩
set_option maxRecDepth 20000 in
theorem fl_X6_66 : jfl RX6 66 7 3 := ⟨(RX7, TX7, 14), rfl, rfl, by decide, rfl, jin7, jt1 185 rfl rfl⟩
set_option maxRecDepth 20000 in
theorem fl_X6_69 : jfl RX6 69 5 5 := ⟨(RX5, TX5, 13), rfl, rfl, by decide, rfl, jin5, jt1 66 rfl rfl⟩
set_option maxRecDepth 20000 in
theorem fl_X6_77 : jfl RX6 77 5 6 := ⟨(RX5, TX5, 13), rfl, rfl, by decide, rfl, jin5, jt1 71 rfl rfl⟩
set_option maxRecDepth 20000 in
theorem fl_X6_80 : jfl RX6 80 5 7 := ⟨(RX5, TX5, 13), rfl, rfl, by decide, rfl, jin5, jt1 75 rfl rfl⟩
set_option maxRecDepth 20000 in
theorem fl_X6_89 : jfl RX6 89 5 1 := ⟨(RX5, TX5, 13), rfl, rfl, by decide, rfl, jin5, jt1 49 rfl rfl⟩
set_option maxRecDepth 20000 in
theorem fl_X6_95 : jfl RX6 95 5 0 := ⟨(RX5, TX5, 13), rfl, rfl, by decide, rfl, jin5, jt1 45 rfl rfl⟩
set_option maxRecDepth 20000 in
theorem fl_X6_102 : jfl RX6 102 7 1 := ⟨(RX7, TX7, 14), rfl, rfl, by decide, rfl, jin7, jt1 180 rfl rfl⟩
set_option maxRecDepth 20000 in
theorem fl_X6_105 : jfl RX6 105 7 2 := ⟨(RX7, TX7, 14), rfl, rfl, by decide, rfl, jin7, jt1 182 rfl rfl⟩
set_option maxRecDepth 20000 in
theorem fl_X6_108 : jfl RX6 108 5 3 := ⟨(RX5, TX5, 13), rfl, rfl, by decide, rfl, jin5, jt1 60 rfl rfl⟩
set_option maxRecDepth 20000 in
theorem fl_X6_114 : jfl RX6 114 7 4 := ⟨(RX7, TX7, 14), rfl, rfl, by decide, rfl, jin7, jt1 187 rfl rfl⟩
set_option maxRecDepth 20000 in
theorem fl_X6_122 : jfl RX6 122 5 8 := ⟨(RX5, TX5, 13), rfl, rfl, by decide, rfl, jin5, jt1 79 rfl rfl⟩
set_option maxRecDepth 20000 in
theorem fl_X6_129 : jfl RX6 129 5 9 := ⟨(RX5, TX5, 13), rfl, rfl, by decide, rfl, jin5, jt1 83 rfl rfl⟩
set_option maxRecDepth 20000 in
theorem fl_X6_132 : jfl RX6 132 5 4 := ⟨(RX5, TX5, 13), rfl, rfl, by decide, rfl, jin5, jt1 64 rfl rfl⟩
set_option maxRecDepth 20000 in
theorem fl_X6_135 : jfl RX6 135 5 10 := ⟨(RX5, TX5, 13), rfl, rfl, by decide, rfl, jin5, jt1 87 rfl rfl⟩
set_option maxRecDepth 20000 in
theorem fl_X7_9 : jfl RX7 9 7 8 := ⟨(RX7, TX7, 14), rfl, rfl, by decide, rfl, jin7, jt1 196 rfl rfl⟩
set_option maxRecDepth 20000 in
theorem fl_X7_15 : jfl RX7 15 7 9 := ⟨(RX7, TX7, 14), rfl, rfl, by decide, rfl, jin7, jt1 197 rfl rfl⟩
set_option maxRecDepth 20000 in
theorem fl_X7_37 : jfl RX7 37 7 10 := ⟨(RX7, TX7, 14), rfl, rfl, by decide, rfl, jin7, jt1 198 rfl rfl⟩
set_option maxRecDepth 20000 in
theorem fl_X7_40 : jfl RX7 40 7 11 := ⟨(RX7, TX7, 14), rfl, rfl, by decide, rfl, jin7, jt1 199 rfl rfl⟩
set_option maxRecDepth 20000 in
theorem fl_X7_43 : jfl RX7 43 7 6 := ⟨(RX7, TX7, 14), rfl, rfl, by decide, rfl, jin7, jt1 192 rfl rfl⟩
set_option maxRecDepth 20000 in
theorem fl_X7_46 : jfl RX7 46 7 7 := ⟨(RX7, TX7, 14), rfl, rfl, by decide, rfl, jin7, jt1 194 rfl rfl⟩
set_option maxRecDepth 20000 in
theorem fl_X7_52 : jfl RX7 52 7 12 := ⟨(RX7, TX7, 14), rfl, rfl, by decide, rfl, jin7, jt1 200 rfl rfl⟩
set_option maxRecDepth 20000 in
theorem fl_X7_55 : jfl RX7 55 7 3 := ⟨(RX7, TX7, 14), rfl, rfl, by decide, rfl, jin7, jt1 184 rfl rfl⟩
set_option maxRecDepth 20000 in
theorem fl_X7_58 : jfl RX7 58 7 0 := ⟨(RX7, TX7, 14), rfl, rfl, by decide, rfl, jin7, jt1 178 rfl rfl⟩
set_option maxRecDepth 20000 in
theorem fl_X7_70 : jfl RX7 70 7 13 := ⟨(RX7, TX7, 14), rfl, rfl, by decide, rfl, jin7, jt1 201 rfl rfl⟩
set_option maxRecDepth 20000 in
theorem fl_X7_73 : jfl RX7 73 7 4 := ⟨(RX7, TX7, 14), rfl, rfl, by decide, rfl, jin7, jt1 186 rfl rfl⟩
set_option maxRecDepth 20000 in
theorem fl_X7_77 : jfl RX7 77 7 1 := ⟨(RX7, TX7, 14), rfl, rfl, by decide, rfl, jin7, jt1 179 rfl rfl⟩
set_option maxRecDepth 20000 in
theorem fl_X7_80 : jfl RX7 80 7 2 := ⟨(RX7, TX7, 14), rfl, rfl, by decide, rfl, jin7, jt1 181 rfl rfl⟩
set_option maxRecDepth 20000 in
theorem fl_X7_87 : jfl RX7 87 7 5 := ⟨(RX7, TX7, 14), rfl, rfl, by decide, rfl, jin7, jt1 191 rfl rfl⟩
set_option maxRecDepth 20000 in
theorem fl_X8_9 : jfl RX8 9 8 0 := ⟨(RX8, TX8, 7), rfl, rfl, by decide, rfl, jin8, jt2 156 rfl rfl⟩
set_option maxRecDepth 20000 in
theorem fl_X8_15 : jfl RX8 15 8 1 := ⟨(RX8, TX8, 7), rfl, rfl, by decide, rfl, jin8, jt2 158 rfl rfl⟩
set_option maxRecDepth 20000 in
theorem fl_X8_18 : jfl RX8 18 8 2 := ⟨(RX8, TX8, 7), rfl, rfl, by decide, rfl, jin8, jt2 160 rfl rfl⟩
set_option maxRecDepth 20000 in
theorem fl_X8_21 : jfl RX8 21 8 3 := ⟨(RX8, TX8, 7), rfl, rfl, by decide, rfl, jin8, jt2 161 rfl rfl⟩
set_option maxRecDepth 20000 in
theorem fl_X8_24 : jfl RX8 24 8 4 := ⟨(RX8, TX8, 7), rfl, rfl, by decide, rfl, jin8, jt2 162 rfl rfl⟩
set_option maxRecDepth 20000 in
theorem fl_X8_31 : jfl RX8 31 8 5 := ⟨(RX8, TX8, 7), rfl, rfl, by decide, rfl, jin8, jt2 163 rfl rfl⟩
set_option maxRecDepth 20000 in
theorem fl_X8_35 : jfl RX8 35 5 10 := ⟨(RX5, TX5, 13), rfl, rfl, by decide, rfl, jin5, jt1 86 rfl rfl⟩
set_option maxRecDepth 20000 in
theorem fl_X8_46 : jfl RX8 46 5 4 := ⟨(RX5, TX5, 13), rfl, rfl, by decide, rfl, jin5, jt1 62 rfl rfl⟩
set_option maxRecDepth 20000 in
theorem fl_X8_50 : jfl RX8 50 8 6 := ⟨(RX8, TX8, 7), rfl, rfl, by decide, rfl, jin8, jt2 164 rfl rfl⟩
set_option maxRecDepth 20000 in
theorem fl_X8_57 : jfl RX8 57 5 3 := ⟨(RX5, TX5, 13), rfl, rfl, by decide, rfl, jin5, jt1 58 rfl rfl⟩
set_option maxRecDepth 20000 in
theorem fl_X8_64 : jfl RX8 64 5 2 := ⟨(RX5, TX5, 13), rfl, rfl, by decide, rfl, jin5, jt1 55 rfl rfl⟩
set_option maxRecDepth 20000 in
theorem fl_X8_67 : jfl RX8 67 5 5 := ⟨(RX5, TX5, 13), rfl, rfl, by decide, rfl, jin5, jt1 67 rfl rfl⟩
set_option maxRecDepth 20000 in
theorem fl_X8_74 : jfl RX8 74 5 9 := ⟨(RX5, TX5, 13), rfl, rfl, by decide, rfl, jin5, jt1 82 rfl rfl⟩
set_option maxRecDepth 20000 in
theorem fl_X8_86 : jfl RX8 86 5 6 := ⟨(RX5, TX5, 13), rfl, rfl, by decide, rfl, jin5, jt1 72 rfl rfl⟩
set_option maxRecDepth 20000 in
theorem fl_X8_124 : jfl RX8 124 5 7 := ⟨(RX5, TX5, 13), rfl, rfl, by decide, rfl, jin5, jt1 76 rfl rfl⟩
set_option maxRecDepth 20000 in
theorem fl_X8_134 : jfl RX8 134 1 0 := ⟨(RX1, TX1, 10), rfl, rfl, by decide, rfl, jin1, jt2 125 rfl rfl⟩
set_option maxRecDepth 20000 in
theorem fl_X9_9 : jfl RX9 9 9 3 := ⟨(RX9, TX9, 4), rfl, rfl, by decide, rfl, jin9, jt3 14 rfl rfl⟩
set_option maxRecDepth 20000 in
theorem fl_X9_15 : jfl RX9 15 9 0 := ⟨(RX9, TX9, 4), rfl, rfl, by decide, rfl, jin9, jt3 9 rfl rfl⟩
set_option maxRecDepth 20000 in
theorem fl_X9_19 : jfl RX9 19 9 1 := ⟨(RX9, TX9, 4), rfl, rfl, by decide, rfl, jin9, jt3 11 rfl rfl⟩
set_option maxRecDepth 20000 in
theorem fl_X9_23 : jfl RX9 23 9 2 := ⟨(RX9, TX9, 4), rfl, rfl, by decide, rfl, jin9, jt3 13 rfl rfl⟩
set_option maxRecDepth 20000 in
theorem fl_X10_12 : jfl RX10 12 10 0 := ⟨(RX10, TX10, 3), rfl, rfl, by decide, rfl, jin10, jt2 98 rfl rfl⟩
set_option maxRecDepth 20000 in
theorem fl_X10_18 : jfl RX10 18 10 1 := ⟨(RX10, TX10, 3), rfl, rfl, by decide, rfl, jin10, jt2 100 rfl rfl⟩
set_option maxRecDepth 20000 in
theorem fl_X10_25 : jfl RX10 25 10 2 := ⟨(RX10, TX10, 3), rfl, rfl, by decide, rfl, jin10, jt2 102 rfl rfl⟩
set_option maxRecDepth 20000 in
theorem fl_X10_33 : jfl RX10 33 5 6 := ⟨(RX5, TX5, 13), rfl, rfl, by decide, rfl, jin5, jt1 70 rfl rfl⟩
set_option maxRecDepth 20000 in
theorem fl_X12_7 : jfl RX12 7 12 3 := ⟨(RX12, TX12, 54), rfl, rfl, by decide, rfl, jin12, jt6 111 rfl rfl⟩
set_option maxRecDepth 20000 in
theorem fl_X12_13 : jfl RX12 13 12 4 := ⟨(RX12, TX12, 54), rfl, rfl, by decide, rfl, jin12, jt6 112 rfl rfl⟩
set_option maxRecDepth 20000 in
theorem fl_X12_17 : jfl RX12 17 12 5 := ⟨(RX12, TX12, 54), rfl, rfl, by decide, rfl, jin12, jt6 113 rfl rfl⟩
set_option maxRecDepth 20000 in
theorem fl_X12_20 : jfl RX12 20 12 6 := ⟨(RX12, TX12, 54), rfl, rfl, by decide, rfl, jin12, jt6 114 rfl rfl⟩
set_option maxRecDepth 20000 in
theorem fl_X12_24 : jfl RX12 24 12 7 := ⟨(RX12, TX12, 54), rfl, rfl, by decide, rfl, jin12, jt6 115 rfl rfl⟩
set_option maxRecDepth 20000 in
theorem fl_X12_28 : jfl RX12 28 12 10 := ⟨(RX12, TX12, 54), rfl, rfl, by decide, rfl, jin12, jt6 118 rfl rfl⟩
set_option maxRecDepth 20000 in
theorem fl_X12_32 : jfl RX12 32 12 11 := ⟨(RX12, TX12, 54), rfl, rfl, by decide, rfl, jin12, jt6 119 rfl rfl⟩
set_option maxRecDepth 20000 in
theorem fl_X12_35 : jfl RX12 35 12 23 := ⟨(RX12, TX12, 54), rfl, rfl, by decide, rfl, jin12, jt6 131 rfl rfl⟩
set_option maxRecDepth 20000 in
theorem fl_X12_38 : jfl RX12 38 12 24 := ⟨(RX12, TX12, 54), rfl, rfl, by decide, rfl, jin12, jt6 132 rfl rfl⟩
set_option maxRecDepth 20000 in
theorem fl_X12_41 : jfl RX12 41 12 26 := ⟨(RX12, TX12, 54), rfl, rfl, by decide, rfl, jin12, jt6 134 rfl rfl⟩
set_option maxRecDepth 20000 in
theorem fl_X12_45 : jfl RX12 45 12 27 := ⟨(RX12, TX12, 54), rfl, rfl, by decide, rfl, jin12, jt6 135 rfl rfl⟩
set_option maxRecDepth 20000 in
theorem fl_X12_48 : jfl RX12 48 12 28 := ⟨(RX12, TX12, 54), rfl, rfl, by decide, rfl, jin12, jt6 136 rfl rfl⟩
set_option maxRecDepth 20000 in
theorem fl_X12_51 : jfl RX12 51 12 29 := ⟨(RX12, TX12, 54), rfl, rfl, by decide, rfl, jin12, jt6 137 rfl rfl⟩
set_option maxRecDepth 20000 in
theorem fl_X12_54 : jfl RX12 54 12 30 := ⟨(RX12, TX12, 54), rfl, rfl, by decide, rfl, jin12, jt6 138 rfl rfl⟩
set_option maxRecDepth 20000 in
theorem fl_X12_57 : jfl RX12 57 12 36 := ⟨(RX12, TX12, 54), rfl, rfl, by decide, rfl, jin12, jt6 144 rfl rfl⟩
set_option maxRecDepth 20000 in
theorem fl_X12_60 : jfl RX12 60 12 37 := ⟨(RX12, TX12, 54), rfl, rfl, by decide, rfl, jin12, jt6 145 rfl rfl⟩
set_option maxRecDepth 20000 in
theorem fl_X12_63 : jfl RX12 63 12 38 := ⟨(RX12, TX12, 54), rfl, rfl, by decide, rfl, jin12, jt6 146 rfl rfl⟩
set_option maxRecDepth 20000 in
theorem fl_X12_66 : jfl RX12 66 12 41 := ⟨(RX12, TX12, 54), rfl, rfl, by decide, rfl, jin12, jt6 149 rfl rfl⟩
set_option maxRecDepth 20000 in
theorem fl_X12_69 : jfl RX12 69 12 47 := ⟨(RX12, TX12, 54), rfl, rfl, by decide, rfl, jin12, jt6 155 rfl rfl⟩
set_option maxRecDepth 20000 in
theorem fl_X12_72 : jfl RX12 72 12 48 := ⟨(RX12, TX12, 54), rfl, rfl, by decide, rfl, jin12, jt6 156 rfl rfl⟩
set_option maxRecDepth 20000 in
theorem fl_X12_75 : jfl RX12 75 12 51 := ⟨(RX12, TX12, 54), rfl, rfl, by decide, rfl, jin12, jt6 159 rfl rfl⟩
set_option maxRecDepth 20000 in
theorem fl_X12_78 : jfl RX12 78 12 52 := ⟨(RX12, TX12, 54), rfl, rfl, by decide, rfl, jin12, jt6 160 rfl rfl⟩
set_option maxRecDepth 20000 in
theorem fl_X12_81 : jfl RX12 81 12 1 := ⟨(RX12, TX12, 54), rfl, rfl, by decide, rfl, jin12, jt6 109 rfl rfl⟩
set_option maxRecDepth 20000 in
theorem fl_X12_84 : jfl RX12 84 12 0 := ⟨(RX12, TX12, 54), rfl, rfl, by decide, rfl, jin12, jt6 108 rfl rfl⟩
set_option maxRecDepth 20000 in
theorem fl_X12_87 : jfl RX12 87 12 2 := ⟨(RX12, TX12, 54), rfl, rfl, by decide, rfl, jin12, jt6 110 rfl rfl⟩
set_option maxRecDepth 20000 in
theorem fl_X12_120 : jfl RX12 120 12 9 := ⟨(RX12, TX12, 54), rfl, rfl, by decide, rfl, jin12, jt6 117 rfl rfl⟩
set_option maxRecDepth 20000 in
theorem fl_X12_123 : jfl RX12 123 12 16 := ⟨(RX12, TX12, 54), rfl, rfl, by decide, rfl, jin12, jt6 124 rfl rfl⟩
set_option maxRecDepth 20000 in
theorem fl_X12_126 : jfl RX12 126 12 15 := ⟨(RX12, TX12, 54), rfl, rfl, by decide, rfl, jin12, jt6 123 rfl rfl⟩
set_option maxRecDepth 20000 in
theorem fl_X12_132 : jfl RX12 132 12 14 := ⟨(RX12, TX12, 54), rfl, rfl, by decide, rfl, jin12, jt6 122 rfl rfl⟩
set_option maxRecDepth 20000 in
theorem fl_X12_138 : jfl RX12 138 12 22 := ⟨(RX12, TX12, 54), rfl, rfl, by decide, rfl, jin12, jt6 130 rfl rfl⟩
set_option maxRecDepth 20000 in
theorem fl_X12_145 : jfl RX12 145 12 18 := ⟨(RX12, TX12, 54), rfl, rfl, by decide, rfl, jin12, jt6 126 rfl rfl⟩
set_option maxRecDepth 20000 in
theorem fl_X12_151 : jfl RX12 151 12 17 := ⟨(RX12, TX12, 54), rfl, rfl, by decide, rfl, jin12, jt6 125 rfl rfl⟩
set_option maxRecDepth 20000 in
theorem fl_X12_229 : jfl RX12 229 12 12 := ⟨(RX12, TX12, 54), rfl, rfl, by decide, rfl, jin12, jt6 120 rfl rfl⟩
set_option maxRecDepth 20000 in
theorem fl_X12_232 : jfl RX12 232 12 13 := ⟨(RX12, TX12, 54), rfl, rfl, by decide, rfl, jin12, jt6 121 rfl rfl⟩
set_option maxRecDepth 20000 in
theorem fl_X12_245 : jfl RX12 245 12 8 := ⟨(RX12, TX12, 54), rfl, rfl, by decide, rfl, jin12, jt6 116 rfl rfl⟩
set_option maxRecDepth 20000 in
theorem fl_X12_283 : jfl RX12 283 12 19 := ⟨(RX12, TX12, 54), rfl, rfl, by decide, rfl, jin12, jt6 127 rfl rfl⟩
set_option maxRecDepth 20000 in
theorem fl_X12_286 : jfl RX12 286 12 20 := ⟨(RX12, TX12, 54), rfl, rfl, by decide, rfl, jin12, jt6 128 rfl rfl⟩
set_option maxRecDepth 20000 in
theorem fl_X12_289 : jfl RX12 289 12 21 := ⟨(RX12, TX12, 54), rfl, rfl, by decide, rfl, jin12, jt6 129 rfl rfl⟩
set_option maxRecDepth 20000 in
theorem fl_X12_357 : jfl RX12 357 12 33 := ⟨(RX12, TX12, 54), rfl, rfl, by decide, rfl, jin12, jt6 141 rfl rfl⟩
set_option maxRecDepth 20000 in
theorem fl_X12_360 : jfl RX12 360 12 34 := ⟨(RX12, TX12, 54), rfl, rfl, by decide, rfl, jin12, jt6 142 rfl rfl⟩
set_option maxRecDepth 20000 in
theorem fl_X12_363 : jfl RX12 363 12 35 := ⟨(RX12, TX12, 54), rfl, rfl, by decide, rfl, jin12, jt6 143 rfl rfl⟩
set_option maxRecDepth 20000 in
theorem fl_X12_378 : jfl RX12 378 12 31 := ⟨(RX12, TX12, 54), rfl, rfl, by decide, rfl, jin12, jt6 139 rfl rfl⟩
set_option maxRecDepth 20000 in
theorem fl_X12_384 : jfl RX12 384 12 32 := ⟨(RX12, TX12, 54), rfl, rfl, by decide, rfl, jin12, jt6 140 rfl rfl⟩
set_option maxRecDepth 20000 in
theorem fl_X12_433 : jfl RX12 433 12 40 := ⟨(RX12, TX12, 54), rfl, rfl, by decide, rfl, jin12, jt6 148 rfl rfl⟩
set_option maxRecDepth 20000 in
theorem fl_X12_439 : jfl RX12 439 12 39 := ⟨(RX12, TX12, 54), rfl, rfl, by decide, rfl, jin12, jt6 147 rfl rfl⟩
set_option maxRecDepth 20000 in
theorem fl_X12_451 : jfl RX12 451 12 53 := ⟨(RX12, TX12, 54), rfl, rfl, by decide, rfl, jin12, jt6 161 rfl rfl⟩
set_option maxRecDepth 20000 in
theorem fl_X12_460 : jfl RX12 460 12 42 := ⟨(RX12, TX12, 54), rfl, rfl, by decide, rfl, jin12, jt6 150 rfl rfl⟩
set_option maxRecDepth 20000 in
theorem fl_X12_464 : jfl RX12 464 12 44 := ⟨(RX12, TX12, 54), rfl, rfl, by decide, rfl, jin12, jt6 152 rfl rfl⟩
set_option maxRecDepth 20000 in
theorem fl_X12_467 : jfl RX12 467 12 45 := ⟨(RX12, TX12, 54), rfl, rfl, by decide, rfl, jin12, jt6 153 rfl rfl⟩
set_option maxRecDepth 20000 in
theorem fl_X12_479 : jfl RX12 479 12 43 := ⟨(RX12, TX12, 54), rfl, rfl, by decide, rfl, jin12, jt6 151 rfl rfl⟩
set_option maxRecDepth 20000 in
theorem fl_X12_482 : jfl RX12 482 12 46 := ⟨(RX12, TX12, 54), rfl, rfl, by decide, rfl, jin12, jt6 154 rfl rfl⟩
set_option maxRecDepth 20000 in
theorem fl_X12_485 : jfl RX12 485 12 50 := ⟨(RX12, TX12, 54), rfl, rfl, by decide, rfl, jin12, jt6 158 rfl rfl⟩
set_option maxRecDepth 20000 in
theorem fl_X12_509 : jfl RX12 509 12 49 := ⟨(RX12, TX12, 54), rfl, rfl, by decide, rfl, jin12, jt6 157 rfl rfl⟩
set_option maxRecDepth 20000 in
theorem fl_X12_514 : jfl RX12 514 12 25 := ⟨(RX12, TX12, 54), rfl, rfl, by decide, rfl, jin12, jt6 133 rfl rfl⟩
theorem fw_0_3 : jfw 0 3 .int := ⟨(RX0, TX0, 8), tyX0, rfl, tyX0_ok, nmX0, rfl, by decide +kernel⟩
theorem fw_1_0 : jfw 1 0 .int := ⟨(RX1, TX1, 10), tyX1, rfl, tyX1_ok, nmX1, rfl, by decide +kernel⟩
theorem fw_1_3 : jfw 1 3 .int := ⟨(RX1, TX1, 10), tyX1, rfl, tyX1_ok, nmX1, rfl, by decide +kernel⟩
theorem fw_1_5 : jfw 1 5 .int := ⟨(RX1, TX1, 10), tyX1, rfl, tyX1_ok, nmX1, rfl, by decide +kernel⟩
theorem fw_1_6 : jfw 1 6 .long := ⟨(RX1, TX1, 10), tyX1, rfl, tyX1_ok, nmX1, rfl, by decide +kernel⟩
theorem fw_2_0 : jfw 2 0 .int := ⟨(RX2, TX2, 6), tyX2, rfl, tyX2_ok, nmX2, rfl, by decide +kernel⟩
theorem fw_2_1 : jfw 2 1 .int := ⟨(RX2, TX2, 6), tyX2, rfl, tyX2_ok, nmX2, rfl, by decide +kernel⟩
theorem fw_2_2 : jfw 2 2 .int := ⟨(RX2, TX2, 6), tyX2, rfl, tyX2_ok, nmX2, rfl, by decide +kernel⟩
theorem fw_2_3 : jfw 2 3 .int := ⟨(RX2, TX2, 6), tyX2, rfl, tyX2_ok, nmX2, rfl, by decide +kernel⟩
theorem fw_2_5 : jfw 2 5 .int := ⟨(RX2, TX2, 6), tyX2, rfl, tyX2_ok, nmX2, rfl, by decide +kernel⟩
theorem fw_3_0 : jfw 3 0 .boolean := ⟨(RX3, TX3, 10), tyX3, rfl, tyX3_ok, nmX3, rfl, by decide +kernel⟩
theorem fw_3_1 : jfw 3 1 .int := ⟨(RX3, TX3, 10), tyX3, rfl, tyX3_ok, nmX3, rfl, by decide +kernel⟩
theorem fw_3_2 : jfw 3 2 .int := ⟨(RX3, TX3, 10), tyX3, rfl, tyX3_ok, nmX3, rfl, by decide +kernel⟩
theorem fw_4_3 : jfw 4 3 .int := ⟨(RX4, TX4, 4), tyX4, rfl, tyX4_ok, nmX4, rfl, by decide +kernel⟩
theorem fw_5_0 : jfw 5 0 .int := ⟨(RX5, TX5, 13), tyX5, rfl, tyX5_ok, nmX5, rfl, by decide +kernel⟩
theorem fw_5_1 : jfw 5 1 .int := ⟨(RX5, TX5, 13), tyX5, rfl, tyX5_ok, nmX5, rfl, by decide +kernel⟩
theorem fw_5_2 : jfw 5 2 .int := ⟨(RX5, TX5, 13), tyX5, rfl, tyX5_ok, nmX5, rfl, by decide +kernel⟩
theorem fw_5_3 : jfw 5 3 .int := ⟨(RX5, TX5, 13), tyX5, rfl, tyX5_ok, nmX5, rfl, by decide +kernel⟩
theorem fw_5_4 : jfw 5 4 .int := ⟨(RX5, TX5, 13), tyX5, rfl, tyX5_ok, nmX5, rfl, by decide +kernel⟩
theorem fw_6_2 : jfw 6 2 .int := ⟨(RX6, TX6, 5), tyX6, rfl, tyX6_ok, nmX6, rfl, by decide +kernel⟩
theorem fw_6_3 : jfw 6 3 .int := ⟨(RX6, TX6, 5), tyX6, rfl, tyX6_ok, nmX6, rfl, by decide +kernel⟩
theorem fw_6_4 : jfw 6 4 .int := ⟨(RX6, TX6, 5), tyX6, rfl, tyX6_ok, nmX6, rfl, by decide +kernel⟩
theorem fw_7_0 : jfw 7 0 .int := ⟨(RX7, TX7, 14), tyX7, rfl, tyX7_ok, nmX7, rfl, by decide +kernel⟩
theorem fw_7_1 : jfw 7 1 .int := ⟨(RX7, TX7, 14), tyX7, rfl, tyX7_ok, nmX7, rfl, by decide +kernel⟩
theorem fw_7_2 : jfw 7 2 .int := ⟨(RX7, TX7, 14), tyX7, rfl, tyX7_ok, nmX7, rfl, by decide +kernel⟩
theorem fw_7_3 : jfw 7 3 .int := ⟨(RX7, TX7, 14), tyX7, rfl, tyX7_ok, nmX7, rfl, by decide +kernel⟩
theorem fw_7_4 : jfw 7 4 .long := ⟨(RX7, TX7, 14), tyX7, rfl, tyX7_ok, nmX7, rfl, by decide +kernel⟩
theorem fw_7_5 : jfw 7 5 .int := ⟨(RX7, TX7, 14), tyX7, rfl, tyX7_ok, nmX7, rfl, by decide +kernel⟩
theorem fw_7_6 : jfw 7 6 .int := ⟨(RX7, TX7, 14), tyX7, rfl, tyX7_ok, nmX7, rfl, by decide +kernel⟩
theorem fw_7_7 : jfw 7 7 .int := ⟨(RX7, TX7, 14), tyX7, rfl, tyX7_ok, nmX7, rfl, by decide +kernel⟩
theorem fw_7_9 : jfw 7 9 (.array .byte) := ⟨(RX7, TX7, 14), tyX7, rfl, tyX7_ok, nmX7, rfl, by decide +kernel⟩
theorem fw_7_10 : jfw 7 10 .int := ⟨(RX7, TX7, 14), tyX7, rfl, tyX7_ok, nmX7, rfl, by decide +kernel⟩
theorem fw_7_11 : jfw 7 11 .int := ⟨(RX7, TX7, 14), tyX7, rfl, tyX7_ok, nmX7, rfl, by decide +kernel⟩
theorem fw_7_12 : jfw 7 12 .int := ⟨(RX7, TX7, 14), tyX7, rfl, tyX7_ok, nmX7, rfl, by decide +kernel⟩
theorem fw_7_13 : jfw 7 13 .int := ⟨(RX7, TX7, 14), tyX7, rfl, tyX7_ok, nmX7, rfl, by decide +kernel⟩
theorem fw_8_6 : jfw 8 6 .int := ⟨(RX8, TX8, 7), tyX8, rfl, tyX8_ok, nmX8, rfl, by decide +kernel⟩
theorem fw_9_0 : jfw 9 0 .boolean := ⟨(RX9, TX9, 4), tyX9, rfl, tyX9_ok, nmX9, rfl, by decide +kernel⟩
theorem fw_9_1 : jfw 9 1 .int := ⟨(RX9, TX9, 4), tyX9, rfl, tyX9_ok, nmX9, rfl, by decide +kernel⟩
theorem fw_9_2 : jfw 9 2 .int := ⟨(RX9, TX9, 4), tyX9, rfl, tyX9_ok, nmX9, rfl, by decide +kernel⟩
theorem fw_11_14 : jfw 11 14 .int := ⟨(RX11, TX11, 17), tyX11, rfl, tyX11_ok, nmX11, rfl, by decide +kernel⟩
theorem fw_11_15 : jfw 11 15 .int := ⟨(RX11, TX11, 17), tyX11, rfl, tyX11_ok, nmX11, rfl, by decide +kernel⟩
theorem fw_11_16 : jfw 11 16 .int := ⟨(RX11, TX11, 17), tyX11, rfl, tyX11_ok, nmX11, rfl, by decide +kernel⟩
theorem fw_12_0 : jfw 12 0 .int := ⟨(RX12, TX12, 54), tyX12, rfl, tyX12_ok, nmX12, rfl, by decide +kernel⟩
theorem fw_12_1 : jfw 12 1 .int := ⟨(RX12, TX12, 54), tyX12, rfl, tyX12_ok, nmX12, rfl, by decide +kernel⟩
theorem fw_12_2 : jfw 12 2 .long := ⟨(RX12, TX12, 54), tyX12, rfl, tyX12_ok, nmX12, rfl, by decide +kernel⟩
theorem fw_12_3 : jfw 12 3 .long := ⟨(RX12, TX12, 54), tyX12, rfl, tyX12_ok, nmX12, rfl, by decide +kernel⟩
theorem fw_12_8 : jfw 12 8 .int := ⟨(RX12, TX12, 54), tyX12, rfl, tyX12_ok, nmX12, rfl, by decide +kernel⟩
theorem fw_12_9 : jfw 12 9 .int := ⟨(RX12, TX12, 54), tyX12, rfl, tyX12_ok, nmX12, rfl, by decide +kernel⟩
theorem fw_12_10 : jfw 12 10 .int := ⟨(RX12, TX12, 54), tyX12, rfl, tyX12_ok, nmX12, rfl, by decide +kernel⟩
theorem fw_12_11 : jfw 12 11 .int := ⟨(RX12, TX12, 54), tyX12, rfl, tyX12_ok, nmX12, rfl, by decide +kernel⟩
theorem fw_12_12 : jfw 12 12 .int := ⟨(RX12, TX12, 54), tyX12, rfl, tyX12_ok, nmX12, rfl, by decide +kernel⟩
theorem fw_12_13 : jfw 12 13 .int := ⟨(RX12, TX12, 54), tyX12, rfl, tyX12_ok, nmX12, rfl, by decide +kernel⟩
theorem fw_12_14 : jfw 12 14 .int := ⟨(RX12, TX12, 54), tyX12, rfl, tyX12_ok, nmX12, rfl, by decide +kernel⟩
theorem fw_12_15 : jfw 12 15 .int := ⟨(RX12, TX12, 54), tyX12, rfl, tyX12_ok, nmX12, rfl, by decide +kernel⟩
theorem fw_12_16 : jfw 12 16 .int := ⟨(RX12, TX12, 54), tyX12, rfl, tyX12_ok, nmX12, rfl, by decide +kernel⟩
theorem fw_12_17 : jfw 12 17 .int := ⟨(RX12, TX12, 54), tyX12, rfl, tyX12_ok, nmX12, rfl, by decide +kernel⟩
theorem fw_12_18 : jfw 12 18 .int := ⟨(RX12, TX12, 54), tyX12, rfl, tyX12_ok, nmX12, rfl, by decide +kernel⟩
theorem fw_12_19 : jfw 12 19 .int := ⟨(RX12, TX12, 54), tyX12, rfl, tyX12_ok, nmX12, rfl, by decide +kernel⟩
theorem fw_12_20 : jfw 12 20 .int := ⟨(RX12, TX12, 54), tyX12, rfl, tyX12_ok, nmX12, rfl, by decide +kernel⟩
theorem fw_12_21 : jfw 12 21 .int := ⟨(RX12, TX12, 54), tyX12, rfl, tyX12_ok, nmX12, rfl, by decide +kernel⟩
theorem fw_12_22 : jfw 12 22 .long := ⟨(RX12, TX12, 54), tyX12, rfl, tyX12_ok, nmX12, rfl, by decide +kernel⟩
theorem fw_12_25 : jfw 12 25 .int := ⟨(RX12, TX12, 54), tyX12, rfl, tyX12_ok, nmX12, rfl, by decide +kernel⟩
theorem fw_12_31 : jfw 12 31 .int := ⟨(RX12, TX12, 54), tyX12, rfl, tyX12_ok, nmX12, rfl, by decide +kernel⟩
theorem fw_12_32 : jfw 12 32 .int := ⟨(RX12, TX12, 54), tyX12, rfl, tyX12_ok, nmX12, rfl, by decide +kernel⟩
theorem fw_12_33 : jfw 12 33 .int := ⟨(RX12, TX12, 54), tyX12, rfl, tyX12_ok, nmX12, rfl, by decide +kernel⟩
theorem fw_12_34 : jfw 12 34 .int := ⟨(RX12, TX12, 54), tyX12, rfl, tyX12_ok, nmX12, rfl, by decide +kernel⟩
theorem fw_12_35 : jfw 12 35 .int := ⟨(RX12, TX12, 54), tyX12, rfl, tyX12_ok, nmX12, rfl, by decide +kernel⟩
theorem fw_12_39 : jfw 12 39 .int := ⟨(RX12, TX12, 54), tyX12, rfl, tyX12_ok, nmX12, rfl, by decide +kernel⟩
theorem fw_12_40 : jfw 12 40 .int := ⟨(RX12, TX12, 54), tyX12, rfl, tyX12_ok, nmX12, rfl, by decide +kernel⟩
theorem fw_12_42 : jfw 12 42 .int := ⟨(RX12, TX12, 54), tyX12, rfl, tyX12_ok, nmX12, rfl, by decide +kernel⟩
theorem fw_12_43 : jfw 12 43 .int := ⟨(RX12, TX12, 54), tyX12, rfl, tyX12_ok, nmX12, rfl, by decide +kernel⟩
theorem fw_12_44 : jfw 12 44 .int := ⟨(RX12, TX12, 54), tyX12, rfl, tyX12_ok, nmX12, rfl, by decide +kernel⟩
theorem fw_12_45 : jfw 12 45 .int := ⟨(RX12, TX12, 54), tyX12, rfl, tyX12_ok, nmX12, rfl, by decide +kernel⟩
theorem fw_12_46 : jfw 12 46 .int := ⟨(RX12, TX12, 54), tyX12, rfl, tyX12_ok, nmX12, rfl, by decide +kernel⟩
theorem fw_12_49 : jfw 12 49 .boolean := ⟨(RX12, TX12, 54), tyX12, rfl, tyX12_ok, nmX12, rfl, by decide +kernel⟩
theorem fw_12_50 : jfw 12 50 .boolean := ⟨(RX12, TX12, 54), tyX12, rfl, tyX12_ok, nmX12, rfl, by decide +kernel⟩
theorem fw_12_53 : jfw 12 53 .int := ⟨(RX12, TX12, 54), tyX12, rfl, tyX12_ok, nmX12, rfl, by decide +kernel⟩
abbrev mX0_init : jMI := (yX0_init, cX0_init, 1, none)
abbrev mX0_firstStripApart : jMI := (yX0_firstStripApart, cX0_firstStripApart, 4, (some .int))
set_option maxRecDepth 20000 in
theorem gm_X0_firstStripApart : jmV mX0_firstStripApart 2 := ⟨⟨jt5 190 rfl rfl, jt1 14 rfl rfl, (by decide +kernel), by decide⟩, jt5 188 rfl rfl, jt5 189 rfl rfl⟩
abbrev mX0_fewestWatchers : jMI := (yX0_fewestWatchers, cX0_fewestWatchers, 8, (some .int))
set_option maxRecDepth 20000 in
theorem gm_X0_fewestWatchers : jmV mX0_fewestWatchers 3 := ⟨⟨jt5 204 rfl rfl, jt1 14 rfl rfl, (by decide +kernel), by decide⟩, jt5 202 rfl rfl, jt5 203 rfl rfl⟩
abbrev mX0_tellRowsApart : jMI := (yX0_tellRowsApart, cX0_tellRowsApart, 8, none)
set_option maxRecDepth 20000 in
theorem gm_X0_tellRowsApart : jmV mX0_tellRowsApart 3 := ⟨⟨jt5 208 rfl rfl, jt1 14 rfl rfl, (by decide +kernel), by decide⟩, jt5 207 rfl rfl, jsel (n := 8) 43 (by decide +kernel) (by decide +kernel)⟩
abbrev mX0_couplesTold : jMI := (yX0_couplesTold, cX0_couplesTold, 4, (some .int))
set_option maxRecDepth 20000 in
theorem gm_X0_couplesTold : jmV mX0_couplesTold 1 := ⟨⟨jt5 216 rfl rfl, jt1 14 rfl rfl, (by decide +kernel), by decide⟩, jt5 215 rfl rfl, jsel (n := 8) 44 (by decide +kernel) (by decide +kernel)⟩
abbrev mX0_cellsUnlike : jMI := (yX0_cellsUnlike, cX0_cellsUnlike, 4, (some .int))
set_option maxRecDepth 20000 in
theorem gm_X0_cellsUnlike : jmV mX0_cellsUnlike 1 := ⟨⟨jt5 234 rfl rfl, jt1 14 rfl rfl, (by decide +kernel), by decide⟩, jt5 232 rfl rfl, jt5 233 rfl rfl⟩
abbrev mX0_looksAlike : jMI := (yX0_looksAlike, cX0_looksAlike, 3, (some .boolean))
set_option maxRecDepth 20000 in
theorem gm_X0_looksAlike : jmV mX0_looksAlike 1 := ⟨⟨jt5 238 rfl rfl, jt1 14 rfl rfl, (by decide +kernel), by decide⟩, jt5 236 rfl rfl, jt5 237 rfl rfl⟩
abbrev mX0_findOrder : jMI := (yX0_findOrder, cX0_findOrder, 5, none)
set_option maxRecDepth 20000 in
theorem gm_X0_findOrder : jmV mX0_findOrder 1 := ⟨⟨jt6 2 rfl rfl, jt1 14 rfl rfl, (by decide +kernel), by decide⟩, jt6 0 rfl rfl, jt6 1 rfl rfl⟩
abbrev mX0_changeFirst : jMI := (yX0_changeFirst, cX0_changeFirst, 4, (some .int))
set_option maxRecDepth 20000 in
theorem gm_X0_changeFirst : jmV mX0_changeFirst 1 := ⟨⟨jt6 9 rfl rfl, jt1 14 rfl rfl, (by decide +kernel), by decide⟩, jt6 8 rfl rfl, jsel (n := 8) 45 (by decide +kernel) (by decide +kernel)⟩
abbrev mX1_init : jMI := (yX1_init, cX1_init, 1, none)
abbrev mX1_begin : jMI := (yX1_begin, cX1_begin, 1, none)
set_option maxRecDepth 20000 in
theorem gm_X1_begin : jmV mX1_begin 0 := ⟨⟨jt5 38 rfl rfl, jt1 13 rfl rfl, (by decide +kernel), by decide⟩, jt5 36 rfl rfl, jt5 37 rfl rfl⟩
abbrev mX1_require : jMI := (yX1_require, cX1_require, 5, none)
set_option maxRecDepth 20000 in
theorem gm_X1_require : jmV mX1_require 2 := ⟨⟨jt5 46 rfl rfl, jt1 13 rfl rfl, (by decide +kernel), by decide⟩, jt5 44 rfl rfl, jt5 45 rfl rfl⟩
abbrev mX1_move : jMI := (yX1_move, cX1_move, 3, none)
set_option maxRecDepth 20000 in
theorem gm_X1_move : jmV mX1_move 2 := ⟨⟨jt5 50 rfl rfl, jt1 13 rfl rfl, (by decide +kernel), by decide⟩, jt5 49 rfl rfl, jsel (n := 10) 33 (by decide +kernel) (by decide +kernel)⟩
abbrev mX1_findForced : jMI := (yX1_findForced, cX1_findForced, 3, none)
set_option maxRecDepth 20000 in
theorem gm_X1_findForced : jmV mX1_findForced 0 := ⟨⟨jt5 54 rfl rfl, jt1 13 rfl rfl, (by decide +kernel), by decide⟩, jt5 52 rfl rfl, jt5 53 rfl rfl⟩
abbrev mX1_leastWeight : jMI := (yX1_leastWeight, cX1_leastWeight, 5, (some .long))
set_option maxRecDepth 20000 in
theorem gm_X1_leastWeight : jmV mX1_leastWeight 1 := ⟨⟨jt5 64 rfl rfl, jt1 13 rfl rfl, (by decide +kernel), by decide⟩, jt5 62 rfl rfl, jt5 63 rfl rfl⟩
abbrev mX1_search : jMI := (yX1_search, cX1_search, 11, none)
set_option maxRecDepth 20000 in
theorem gm_X1_search : jmV mX1_search 5 := ⟨⟨jt5 69 rfl rfl, jt1 13 rfl rfl, (by decide +kernel), by decide⟩, jt5 68 rfl rfl, jsel (n := 10) 34 (by decide +kernel) (by decide +kernel)⟩
abbrev mX1_floorOf : jMI := (yX1_floorOf, cX1_floorOf, 6, (some .long))
set_option maxRecDepth 20000 in
theorem gm_X1_floorOf : jmV mX1_floorOf 3 := ⟨⟨jt5 73 rfl rfl, jt1 13 rfl rfl, (by decide +kernel), by decide⟩, jt5 72 rfl rfl, jsel (n := 10) 35 (by decide +kernel) (by decide +kernel)⟩
abbrev mX1_lightest : jMI := (yX1_lightest, cX1_lightest, 6, (some .int))
set_option maxRecDepth 20000 in
theorem gm_X1_lightest : jmS mX1_lightest 2 := ⟨⟨jt5 77 rfl rfl, jt1 13 rfl rfl, (by decide +kernel), by decide⟩, jt5 76 rfl rfl⟩
abbrev mX1_countWays : jMI := (yX1_countWays, cX1_countWays, 7, (some .long))
set_option maxRecDepth 20000 in
theorem gm_X1_countWays : jmV mX1_countWays 2 := ⟨⟨jt5 121 rfl rfl, jt1 13 rfl rfl, (by decide +kernel), by decide⟩, jt5 119 rfl rfl, jt5 120 rfl rfl⟩
abbrev mX1_holdSlots : jMI := (yX1_holdSlots, cX1_holdSlots, 5, (some .boolean))
set_option maxRecDepth 20000 in
theorem gm_X1_holdSlots : jmV mX1_holdSlots 1 := ⟨⟨jt5 125 rfl rfl, jt1 13 rfl rfl, (by decide +kernel), by decide⟩, jt5 124 rfl rfl, jsel (n := 10) 37 (by decide +kernel) (by decide +kernel)⟩
abbrev mX1_slotsClosing : jMI := (yX1_slotsClosing, cX1_slotsClosing, 5, (some .int))
set_option maxRecDepth 20000 in
theorem gm_X1_slotsClosing : jmV mX1_slotsClosing 1 := ⟨⟨jt5 132 rfl rfl, jt1 13 rfl rfl, (by decide +kernel), by decide⟩, jt5 131 rfl rfl, jsel (n := 10) 38 (by decide +kernel) (by decide +kernel)⟩
abbrev mX1_slotsMet : jMI := (yX1_slotsMet, cX1_slotsMet, 4, (some .int))
set_option maxRecDepth 20000 in
theorem gm_X1_slotsMet : jmV mX1_slotsMet 1 := ⟨⟨jt5 136 rfl rfl, jt1 13 rfl rfl, (by decide +kernel), by decide⟩, jt5 135 rfl rfl, jsel (n := 10) 39 (by decide +kernel) (by decide +kernel)⟩
abbrev mX1_raiseOrNot : jMI := (yX1_raiseOrNot, cX1_raiseOrNot, 8, none)
set_option maxRecDepth 20000 in
theorem gm_X1_raiseOrNot : jmV mX1_raiseOrNot 3 := ⟨⟨jt5 140 rfl rfl, jt1 13 rfl rfl, (by decide +kernel), by decide⟩, jt5 139 rfl rfl, jsel (n := 10) 40 (by decide +kernel) (by decide +kernel)⟩
abbrev mX1_closeSlots : jMI := (yX1_closeSlots, cX1_closeSlots, 4, none)
set_option maxRecDepth 20000 in
theorem gm_X1_closeSlots : jmV mX1_closeSlots 2 := ⟨⟨jt5 145 rfl rfl, jt1 13 rfl rfl, (by decide +kernel), by decide⟩, jt5 144 rfl rfl, jsel (n := 10) 41 (by decide +kernel) (by decide +kernel)⟩
abbrev mX2_init : jMI := (yX2_init, cX2_init, 1, none)
abbrev mX2_work : jMI := (yX2_work, cX2_work, 7, none)
set_option maxRecDepth 20000 in
theorem gm_X2_work : jmV mX2_work 4 := ⟨⟨jt6 43 rfl rfl, jt1 15 rfl rfl, (by decide +kernel), by decide⟩, jt6 41 rfl rfl, jt6 42 rfl rfl⟩
abbrev mX2_behindEnd : jMI := (yX2_behindEnd, cX2_behindEnd, 4, (some .int))
set_option maxRecDepth 20000 in
theorem gm_X2_behindEnd : jmV mX2_behindEnd 2 := ⟨⟨jt6 48 rfl rfl, jt1 15 rfl rfl, (by decide +kernel), by decide⟩, jt6 47 rfl rfl, jsel (n := 6) 46 (by decide +kernel) (by decide +kernel)⟩
abbrev mX2_behindStep : jMI := (yX2_behindStep, cX2_behindStep, 6, (some .int))
set_option maxRecDepth 20000 in
theorem gm_X2_behindStep : jmV mX2_behindStep 4 := ⟨⟨jt6 52 rfl rfl, jt1 15 rfl rfl, (by decide +kernel), by decide⟩, jt6 51 rfl rfl, jsel (n := 6) 47 (by decide +kernel) (by decide +kernel)⟩
abbrev mX2_lay : jMI := (yX2_lay, cX2_lay, 5, none)
set_option maxRecDepth 20000 in
theorem gm_X2_lay : jmV mX2_lay 3 := ⟨⟨jt6 57 rfl rfl, jt1 15 rfl rfl, (by decide +kernel), by decide⟩, jt6 56 rfl rfl, jsel (n := 6) 48 (by decide +kernel) (by decide +kernel)⟩
abbrev mX2_take : jMI := (yX2_take, cX2_take, 5, none)
set_option maxRecDepth 20000 in
theorem gm_X2_take : jmV mX2_take 3 := ⟨⟨jt6 62 rfl rfl, jt1 15 rfl rfl, (by decide +kernel), by decide⟩, jt6 61 rfl rfl, jsel (n := 6) 49 (by decide +kernel) (by decide +kernel)⟩
abbrev mX2_rage : jMI := (yX2_rage, cX2_rage, 5, none)
set_option maxRecDepth 20000 in
theorem gm_X2_rage : jmV mX2_rage 3 := ⟨⟨jt6 66 rfl rfl, jt1 15 rfl rfl, (by decide +kernel), by decide⟩, jt6 65 rfl rfl, jsel (n := 6) 50 (by decide +kernel) (by decide +kernel)⟩
abbrev mX2_isSo : jMI := (yX2_isSo, cX2_isSo, 8, (some .boolean))
set_option maxRecDepth 20000 in
theorem gm_X2_isSo : jmV mX2_isSo 4 := ⟨⟨jt6 71 rfl rfl, jt1 15 rfl rfl, (by decide +kernel), by decide⟩, jt6 70 rfl rfl, jsel (n := 6) 51 (by decide +kernel) (by decide +kernel)⟩
abbrev mX2_compares : jMI := (yX2_compares, cX2_compares, 3, (some .boolean))
set_option maxRecDepth 20000 in
theorem gm_X2_compares : jmS mX2_compares 3 := ⟨⟨jt6 74 rfl rfl, jt1 15 rfl rfl, (by decide +kernel), by decide⟩, jt6 73 rfl rfl⟩
abbrev mX3_init : jMI := (yX3_init, cX3_init, 1, none)
abbrev mX3_begin : jMI := (yX3_begin, cX3_begin, 2, none)
set_option maxRecDepth 20000 in
theorem gm_X3_begin : jmV mX3_begin 1 := ⟨⟨jt4 23 rfl rfl, jt1 10 rfl rfl, (by decide +kernel), by decide⟩, jt4 21 rfl rfl, jt4 22 rfl rfl⟩
abbrev mX3_copyFrom : jMI := (yX3_copyFrom, cX3_copyFrom, 2, none)
set_option maxRecDepth 20000 in
theorem gm_X3_copyFrom : jmV mX3_copyFrom 1 := ⟨⟨jt4 92 rfl rfl, jt1 10 rfl rfl, (by decide +kernel), by decide⟩, jt4 90 rfl rfl, jt4 91 rfl rfl⟩
abbrev mX4_init : jMI := (yX4_init, cX4_init, 1, none)
abbrev mX4_readOrders : jMI := (yX4_readOrders, cX4_readOrders, 6, (some .boolean))
set_option maxRecDepth 20000 in
theorem gm_X4_readOrders : jmV mX4_readOrders 3 := ⟨⟨jt4 35 rfl rfl, jt1 9 rfl rfl, (by decide +kernel), by decide⟩, jt4 33 rfl rfl, jt4 34 rfl rfl⟩
abbrev mX4_readEnd : jMI := (yX4_readEnd, cX4_readEnd, 2, (some .boolean))
set_option maxRecDepth 20000 in
theorem gm_X4_readEnd : jmV mX4_readEnd 0 := ⟨⟨jt4 41 rfl rfl, jt1 9 rfl rfl, (by decide +kernel), by decide⟩, jt4 40 rfl rfl, jsel (n := 4) 15 (by decide +kernel) (by decide +kernel)⟩
abbrev mX4_openStep : jMI := (yX4_openStep, cX4_openStep, 4, (some .boolean))
set_option maxRecDepth 20000 in
theorem gm_X4_openStep : jmV mX4_openStep 0 := ⟨⟨jt4 47 rfl rfl, jt1 9 rfl rfl, (by decide +kernel), by decide⟩, jt4 46 rfl rfl, jsel (n := 4) 16 (by decide +kernel) (by decide +kernel)⟩
abbrev mX4_readRest : jMI := (yX4_readRest, cX4_readRest, 3, (some .boolean))
set_option maxRecDepth 20000 in
theorem gm_X4_readRest : jmV mX4_readRest 1 := ⟨⟨jt4 52 rfl rfl, jt1 9 rfl rfl, (by decide +kernel), by decide⟩, jt4 51 rfl rfl, jsel (n := 4) 17 (by decide +kernel) (by decide +kernel)⟩
abbrev mX4_readCell : jMI := (yX4_readCell, cX4_readCell, 4, (some .boolean))
set_option maxRecDepth 20000 in
theorem gm_X4_readCell : jmV mX4_readCell 2 := ⟨⟨jt4 56 rfl rfl, jt1 9 rfl rfl, (by decide +kernel), by decide⟩, jt4 55 rfl rfl, jsel (n := 4) 18 (by decide +kernel) (by decide +kernel)⟩
abbrev mX4_readBy : jMI := (yX4_readBy, cX4_readBy, 2, (some .boolean))
set_option maxRecDepth 20000 in
theorem gm_X4_readBy : jmV mX4_readBy 1 := ⟨⟨jt4 61 rfl rfl, jt1 9 rfl rfl, (by decide +kernel), by decide⟩, jt4 60 rfl rfl, jsel (n := 4) 19 (by decide +kernel) (by decide +kernel)⟩
abbrev mX4_readNumber : jMI := (yX4_readNumber, cX4_readNumber, 5, (some .boolean))
set_option maxRecDepth 20000 in
theorem gm_X4_readNumber : jmV mX4_readNumber 3 := ⟨⟨jt4 65 rfl rfl, jt1 9 rfl rfl, (by decide +kernel), by decide⟩, jt4 64 rfl rfl, jsel (n := 4) 20 (by decide +kernel) (by decide +kernel)⟩
abbrev mX4_readTest : jMI := (yX4_readTest, cX4_readTest, 4, (some .boolean))
set_option maxRecDepth 20000 in
theorem gm_X4_readTest : jmV mX4_readTest 2 := ⟨⟨jt4 69 rfl rfl, jt1 9 rfl rfl, (by decide +kernel), by decide⟩, jt4 68 rfl rfl, jsel (n := 4) 21 (by decide +kernel) (by decide +kernel)⟩
abbrev mX4_readName : jMI := (yX4_readName, cX4_readName, 3, (some .boolean))
set_option maxRecDepth 20000 in
theorem gm_X4_readName : jmV mX4_readName 2 := ⟨⟨jt4 81 rfl rfl, jt1 9 rfl rfl, (by decide +kernel), by decide⟩, jt4 80 rfl rfl, jsel (n := 4) 23 (by decide +kernel) (by decide +kernel)⟩
abbrev mX4_readStrip : jMI := (yX4_readStrip, cX4_readStrip, 3, (some .boolean))
set_option maxRecDepth 20000 in
theorem gm_X4_readStrip : jmV mX4_readStrip 1 := ⟨⟨jt4 87 rfl rfl, jt1 9 rfl rfl, (by decide +kernel), by decide⟩, jt4 86 rfl rfl, jsel (n := 4) 24 (by decide +kernel) (by decide +kernel)⟩
abbrev mX4_readCompares : jMI := (yX4_readCompares, cX4_readCompares, 3, (some .boolean))
set_option maxRecDepth 20000 in
theorem gm_X4_readCompares : jmV mX4_readCompares 1 := ⟨⟨jt4 73 rfl rfl, jt1 9 rfl rfl, (by decide +kernel), by decide⟩, jt4 72 rfl rfl, jsel (n := 4) 22 (by decide +kernel) (by decide +kernel)⟩
abbrev mX5_init : jMI := (yX5_init, cX5_init, 1, none)
abbrev mX5_begin : jMI := (yX5_begin, cX5_begin, 6, none)
set_option maxRecDepth 20000 in
theorem gm_X5_begin : jmV mX5_begin 2 := ⟨⟨jt3 200 rfl rfl, jt1 3 rfl rfl, (by decide +kernel), by decide⟩, jt3 198 rfl rfl, jt3 199 rfl rfl⟩
abbrev mX5_stripOf : jMI := (yX5_stripOf, cX5_stripOf, 4, (some .int))
set_option maxRecDepth 20000 in
theorem gm_X5_stripOf : jmV mX5_stripOf 3 := ⟨⟨jt3 207 rfl rfl, jt1 3 rfl rfl, (by decide +kernel), by decide⟩, jt3 206 rfl rfl, jsel (n := 13) 8 (by decide +kernel) (by decide +kernel)⟩
abbrev mX5_copyFrom : jMI := (yX5_copyFrom, cX5_copyFrom, 2, none)
set_option maxRecDepth 20000 in
theorem gm_X5_copyFrom : jmV mX5_copyFrom 1 := ⟨⟨jt4 17 rfl rfl, jt1 3 rfl rfl, (by decide +kernel), by decide⟩, jt4 15 rfl rfl, jt4 16 rfl rfl⟩
abbrev mX5_hasCell : jMI := (yX5_hasCell, cX5_hasCell, 2, (some .boolean))
set_option maxRecDepth 20000 in
theorem gm_X5_hasCell : jmV mX5_hasCell 1 := ⟨⟨jt4 109 rfl rfl, jt1 3 rfl rfl, (by decide +kernel), by decide⟩, jt4 107 rfl rfl, jt4 108 rfl rfl⟩
abbrev mX5_hasVillage : jMI := (yX5_hasVillage, cX5_hasVillage, 2, (some .boolean))
set_option maxRecDepth 20000 in
theorem gm_X5_hasVillage : jmV mX5_hasVillage 1 := ⟨⟨jt4 117 rfl rfl, jt1 3 rfl rfl, (by decide +kernel), by decide⟩, jt4 115 rfl rfl, jt4 116 rfl rfl⟩
abbrev mX5_hasSky : jMI := (yX5_hasSky, cX5_hasSky, 2, (some .boolean))
set_option maxRecDepth 20000 in
theorem gm_X5_hasSky : jmV mX5_hasSky 1 := ⟨⟨jt4 122 rfl rfl, jt1 3 rfl rfl, (by decide +kernel), by decide⟩, jt4 120 rfl rfl, jt4 121 rfl rfl⟩
abbrev mX5_hasStrip : jMI := (yX5_hasStrip, cX5_hasStrip, 3, (some .boolean))
set_option maxRecDepth 20000 in
theorem gm_X5_hasStrip : jmV mX5_hasStrip 2 := ⟨⟨jt4 130 rfl rfl, jt1 3 rfl rfl, (by decide +kernel), by decide⟩, jt4 128 rfl rfl, jt4 129 rfl rfl⟩
abbrev mX5_hasSet : jMI := (yX5_hasSet, cX5_hasSet, 2, (some .boolean))
set_option maxRecDepth 20000 in
theorem gm_X5_hasSet : jmV mX5_hasSet 1 := ⟨⟨jt4 216 rfl rfl, jt1 3 rfl rfl, (by decide +kernel), by decide⟩, jt4 214 rfl rfl, jt4 215 rfl rfl⟩
abbrev mX5_stripAt : jMI := (yX5_stripAt, cX5_stripAt, 3, (some .int))
set_option maxRecDepth 20000 in
theorem gm_X5_stripAt : jmV mX5_stripAt 2 := ⟨⟨jt4 140 rfl rfl, jt1 3 rfl rfl, (by decide +kernel), by decide⟩, jt4 138 rfl rfl, jt4 139 rfl rfl⟩
abbrev mX5_stripsOf : jMI := (yX5_stripsOf, cX5_stripsOf, 2, (some .int))
set_option maxRecDepth 20000 in
theorem gm_X5_stripsOf : jmV mX5_stripsOf 1 := ⟨⟨jt4 1 rfl rfl, jt1 3 rfl rfl, (by decide +kernel), by decide⟩, jt3 239 rfl rfl, jt4 0 rfl rfl⟩
abbrev mX5_stripsFrom : jMI := (yX5_stripsFrom, cX5_stripsFrom, 2, (some .int))
set_option maxRecDepth 20000 in
theorem gm_X5_stripsFrom : jmV mX5_stripsFrom 1 := ⟨⟨jt4 5 rfl rfl, jt1 3 rfl rfl, (by decide +kernel), by decide⟩, jt4 3 rfl rfl, jt4 4 rfl rfl⟩
abbrev mX5_villageNamed : jMI := (yX5_villageNamed, cX5_villageNamed, 4, (some .int))
set_option maxRecDepth 20000 in
theorem gm_X5_villageNamed : jmV mX5_villageNamed 1 := ⟨⟨jt3 233 rfl rfl, jt1 3 rfl rfl, (by decide +kernel), by decide⟩, jt3 231 rfl rfl, jt3 232 rfl rfl⟩
abbrev mX5_stripsPromised : jMI := (yX5_stripsPromised, cX5_stripsPromised, 4, (some .int))
set_option maxRecDepth 20000 in
theorem gm_X5_stripsPromised : jmV mX5_stripsPromised 1 := ⟨⟨jt5 113 rfl rfl, jt1 3 rfl rfl, (by decide +kernel), by decide⟩, jt5 111 rfl rfl, jt5 112 rfl rfl⟩
abbrev mX5_lookFrom : jMI := (yX5_lookFrom, cX5_lookFrom, 8, none)
set_option maxRecDepth 20000 in
theorem gm_X5_lookFrom : jmV mX5_lookFrom 4 := ⟨⟨jt4 199 rfl rfl, jt1 3 rfl rfl, (by decide +kernel), by decide⟩, jt4 197 rfl rfl, jt4 198 rfl rfl⟩
abbrev mX5_lookFromAll : jMI := (yX5_lookFromAll, cX5_lookFromAll, 4, none)
set_option maxRecDepth 20000 in
theorem gm_X5_lookFromAll : jmV mX5_lookFromAll 2 := ⟨⟨jt5 175 rfl rfl, jt1 3 rfl rfl, (by decide +kernel), by decide⟩, jt5 173 rfl rfl, jt5 174 rfl rfl⟩
abbrev mX5_sightOf : jMI := (yX5_sightOf, cX5_sightOf, 6, (some .int))
set_option maxRecDepth 20000 in
theorem gm_X5_sightOf : jmV mX5_sightOf 3 := ⟨⟨jt4 178 rfl rfl, jt1 3 rfl rfl, (by decide +kernel), by decide⟩, jt4 176 rfl rfl, jt4 177 rfl rfl⟩
abbrev mX5_lowestSight : jMI := (yX5_lowestSight, cX5_lowestSight, 5, (some .int))
set_option maxRecDepth 20000 in
theorem gm_X5_lowestSight : jmV mX5_lowestSight 1 := ⟨⟨jt6 30 rfl rfl, jt1 3 rfl rfl, (by decide +kernel), by decide⟩, jt6 28 rfl rfl, jt6 29 rfl rfl⟩
abbrev mX5_firstUnlikeStrip : jMI := (yX5_firstUnlikeStrip, cX5_firstUnlikeStrip, 4, (some .int))
set_option maxRecDepth 20000 in
theorem gm_X5_firstUnlikeStrip : jmV mX5_firstUnlikeStrip 2 := ⟨⟨jt4 195 rfl rfl, jt1 3 rfl rfl, (by decide +kernel), by decide⟩, jt4 193 rfl rfl, jt4 194 rfl rfl⟩
abbrev mX5_firstUnlikeVillage : jMI := (yX5_firstUnlikeVillage, cX5_firstUnlikeVillage, 3, (some .int))
set_option maxRecDepth 20000 in
theorem gm_X5_firstUnlikeVillage : jmV mX5_firstUnlikeVillage 1 := ⟨⟨jt4 190 rfl rfl, jt1 3 rfl rfl, (by decide +kernel), by decide⟩, jt4 188 rfl rfl, jt4 189 rfl rfl⟩
abbrev mX5_stoneOf : jMI := (yX5_stoneOf, cX5_stoneOf, 4, (some .int))
set_option maxRecDepth 20000 in
theorem gm_X5_stoneOf : jmV mX5_stoneOf 1 := ⟨⟨jt4 208 rfl rfl, jt1 3 rfl rfl, (by decide +kernel), by decide⟩, jt4 206 rfl rfl, jt4 207 rfl rfl⟩
abbrev mX6_init : jMI := (yX6_init, cX6_init, 1, none)
abbrev mX6_readPlain : jMI := (yX6_readPlain, cX6_readPlain, 4, (some .boolean))
set_option maxRecDepth 20000 in
theorem gm_X6_readPlain : jmV mX6_readPlain 2 := ⟨⟨jt3 153 rfl rfl, jt1 2 rfl rfl, (by decide +kernel), by decide⟩, jt3 151 rfl rfl, jt3 152 rfl rfl⟩
abbrev mX6_readSize : jMI := (yX6_readSize, cX6_readSize, 2, (some .boolean))
set_option maxRecDepth 20000 in
theorem gm_X6_readSize : jmV mX6_readSize 0 := ⟨⟨jt3 180 rfl rfl, jt1 2 rfl rfl, (by decide +kernel), by decide⟩, jt3 179 rfl rfl, jsel (n := 5) 7 (by decide +kernel) (by decide +kernel)⟩
abbrev mX6_readPart : jMI := (yX6_readPart, cX6_readPart, 1, (some .boolean))
set_option maxRecDepth 20000 in
theorem gm_X6_readPart : jmV mX6_readPart 0 := ⟨⟨jt3 211 rfl rfl, jt1 2 rfl rfl, (by decide +kernel), by decide⟩, jt3 210 rfl rfl, jsel (n := 5) 9 (by decide +kernel) (by decide +kernel)⟩
abbrev mX6_readCells : jMI := (yX6_readCells, cX6_readCells, 4, (some .boolean))
set_option maxRecDepth 20000 in
theorem gm_X6_readCells : jmV mX6_readCells 3 := ⟨⟨jt3 215 rfl rfl, jt1 2 rfl rfl, (by decide +kernel), by decide⟩, jt3 214 rfl rfl, jsel (n := 5) 10 (by decide +kernel) (by decide +kernel)⟩
abbrev mX6_readRow : jMI := (yX6_readRow, cX6_readRow, 7, (some .boolean))
set_option maxRecDepth 20000 in
theorem gm_X6_readRow : jmV mX6_readRow 4 := ⟨⟨jt3 221 rfl rfl, jt1 2 rfl rfl, (by decide +kernel), by decide⟩, jt3 220 rfl rfl, jsel (n := 5) 11 (by decide +kernel) (by decide +kernel)⟩
abbrev mX6_readVillage : jMI := (yX6_readVillage, cX6_readVillage, 2, (some .boolean))
set_option maxRecDepth 20000 in
theorem gm_X6_readVillage : jmV mX6_readVillage 0 := ⟨⟨jt3 225 rfl rfl, jt1 2 rfl rfl, (by decide +kernel), by decide⟩, jt3 224 rfl rfl, jsel (n := 5) 12 (by decide +kernel) (by decide +kernel)⟩
abbrev mX7_init : jMI := (yX7_init, cX7_init, 4, none)
abbrev mX7_begin : jMI := (yX7_begin, cX7_begin, 3, none)
set_option maxRecDepth 20000 in
theorem gm_X7_begin : jmV mX7_begin 2 := ⟨⟨jt3 157 rfl rfl, jt1 4 rfl rfl, (by decide +kernel), by decide⟩, jt3 155 rfl rfl, jt3 156 rfl rfl⟩
abbrev mX7_step : jMI := (yX7_step, cX7_step, 1, none)
set_option maxRecDepth 20000 in
theorem gm_X7_step : jmV mX7_step 0 := ⟨⟨jt3 164 rfl rfl, jt1 4 rfl rfl, (by decide +kernel), by decide⟩, jt3 162 rfl rfl, jt3 163 rfl rfl⟩
abbrev mX7_readWord : jMI := (yX7_readWord, cX7_readWord, 2, none)
set_option maxRecDepth 20000 in
theorem gm_X7_readWord : jmV mX7_readWord 0 := ⟨⟨jt3 168 rfl rfl, jt1 4 rfl rfl, (by decide +kernel), by decide⟩, jt3 167 rfl rfl, jsel (n := 14) 4 (by decide +kernel) (by decide +kernel)⟩
abbrev mX7_readDigits : jMI := (yX7_readDigits, cX7_readDigits, 2, none)
set_option maxRecDepth 20000 in
theorem gm_X7_readDigits : jmV mX7_readDigits 0 := ⟨⟨jt3 172 rfl rfl, jt1 4 rfl rfl, (by decide +kernel), by decide⟩, jt3 171 rfl rfl, jsel (n := 14) 5 (by decide +kernel) (by decide +kernel)⟩
abbrev mX7_readSign : jMI := (yX7_readSign, cX7_readSign, 2, none)
set_option maxRecDepth 20000 in
theorem gm_X7_readSign : jmV mX7_readSign 0 := ⟨⟨jt3 176 rfl rfl, jt1 4 rfl rfl, (by decide +kernel), by decide⟩, jt3 175 rfl rfl, jsel (n := 14) 6 (by decide +kernel) (by decide +kernel)⟩
abbrev mX7_refuse : jMI := (yX7_refuse, cX7_refuse, 2, (some .boolean))
set_option maxRecDepth 20000 in
theorem gm_X7_refuse : jmV mX7_refuse 1 := ⟨⟨jt3 188 rfl rfl, jt1 4 rfl rfl, (by decide +kernel), by decide⟩, jt3 186 rfl rfl, jt3 187 rfl rfl⟩
abbrev mX7_takeWord : jMI := (yX7_takeWord, cX7_takeWord, 2, (some .boolean))
set_option maxRecDepth 20000 in
theorem gm_X7_takeWord : jmV mX7_takeWord 1 := ⟨⟨jt3 184 rfl rfl, jt1 4 rfl rfl, (by decide +kernel), by decide⟩, jt3 182 rfl rfl, jt3 183 rfl rfl⟩
abbrev mX7_takeSemicolon : jMI := (yX7_takeSemicolon, cX7_takeSemicolon, 1, (some .boolean))
set_option maxRecDepth 20000 in
theorem gm_X7_takeSemicolon : jmV mX7_takeSemicolon 0 := ⟨⟨jt3 196 rfl rfl, jt1 4 rfl rfl, (by decide +kernel), by decide⟩, jt3 194 rfl rfl, jt3 195 rfl rfl⟩
abbrev mX7_takeCompares : jMI := (yX7_takeCompares, cX7_takeCompares, 1, (some .boolean))
set_option maxRecDepth 20000 in
theorem gm_X7_takeCompares : jmV mX7_takeCompares 0 := ⟨⟨jt4 77 rfl rfl, jt1 4 rfl rfl, (by decide +kernel), by decide⟩, jt4 75 rfl rfl, jt4 76 rfl rfl⟩
abbrev mX7_takeNumber : jMI := (yX7_takeNumber, cX7_takeNumber, 3, (some .boolean))
set_option maxRecDepth 20000 in
theorem gm_X7_takeNumber : jmV mX7_takeNumber 2 := ⟨⟨jt3 192 rfl rfl, jt1 4 rfl rfl, (by decide +kernel), by decide⟩, jt3 190 rfl rfl, jt3 191 rfl rfl⟩
abbrev mX7_isName : jMI := (yX7_isName, cX7_isName, 1, (some .boolean))
set_option maxRecDepth 20000 in
theorem gm_X7_isName : jmV mX7_isName 0 := ⟨⟨jt3 229 rfl rfl, jt1 4 rfl rfl, (by decide +kernel), by decide⟩, jt3 227 rfl rfl, jt3 228 rfl rfl⟩
abbrev mX7_isSide : jMI := (yX7_isSide, cX7_isSide, 1, (some .boolean))
set_option maxRecDepth 20000 in
theorem gm_X7_isSide : jmV mX7_isSide 0 := ⟨⟨jt3 237 rfl rfl, jt1 4 rfl rfl, (by decide +kernel), by decide⟩, jt3 235 rfl rfl, jt3 236 rfl rfl⟩
abbrev mX8_init : jMI := (yX8_init, cX8_init, 1, none)
abbrev mX8_wantPromises : jMI := (yX8_wantPromises, cX8_wantPromises, 3, none)
set_option maxRecDepth 20000 in
theorem gm_X8_wantPromises : jmV mX8_wantPromises 2 := ⟨⟨jt4 220 rfl rfl, jt1 12 rfl rfl, (by decide +kernel), by decide⟩, jt4 218 rfl rfl, jt4 219 rfl rfl⟩
abbrev mX8_wantFromAll : jMI := (yX8_wantFromAll, cX8_wantFromAll, 3, none)
set_option maxRecDepth 20000 in
theorem gm_X8_wantFromAll : jmV mX8_wantFromAll 2 := ⟨⟨jt6 22 rfl rfl, jt1 12 rfl rfl, (by decide +kernel), by decide⟩, jt6 20 rfl rfl, jt6 21 rfl rfl⟩
abbrev mX8_wantViews : jMI := (yX8_wantViews, cX8_wantViews, 3, none)
set_option maxRecDepth 20000 in
theorem gm_X8_wantViews : jmV mX8_wantViews 2 := ⟨⟨jt5 171 rfl rfl, jt1 12 rfl rfl, (by decide +kernel), by decide⟩, jt5 169 rfl rfl, jt5 170 rfl rfl⟩
abbrev mX8_findCaps : jMI := (yX8_findCaps, cX8_findCaps, 6, none)
set_option maxRecDepth 20000 in
theorem gm_X8_findCaps : jmV mX8_findCaps 1 := ⟨⟨jt4 225 rfl rfl, jt1 12 rfl rfl, (by decide +kernel), by decide⟩, jt4 224 rfl rfl, jsel (n := 7) 26 (by decide +kernel) (by decide +kernel)⟩
abbrev mX8_isWatching : jMI := (yX8_isWatching, cX8_isWatching, 2, (some .boolean))
set_option maxRecDepth 20000 in
theorem gm_X8_isWatching : jmV mX8_isWatching 1 := ⟨⟨jt4 229 rfl rfl, jt1 12 rfl rfl, (by decide +kernel), by decide⟩, jt4 228 rfl rfl, jsel (n := 7) 27 (by decide +kernel) (by decide +kernel)⟩
abbrev mX8_keepLow : jMI := (yX8_keepLow, cX8_keepLow, 3, none)
set_option maxRecDepth 20000 in
theorem gm_X8_keepLow : jmV mX8_keepLow 2 := ⟨⟨jt5 179 rfl rfl, jt1 12 rfl rfl, (by decide +kernel), by decide⟩, jt5 177 rfl rfl, jt5 178 rfl rfl⟩
abbrev mX8_canBeKept : jMI := (yX8_canBeKept, cX8_canBeKept, 3, (some .boolean))
set_option maxRecDepth 20000 in
theorem gm_X8_canBeKept : jmV mX8_canBeKept 1 := ⟨⟨jt5 3 rfl rfl, jt1 12 rfl rfl, (by decide +kernel), by decide⟩, jt5 1 rfl rfl, jt5 2 rfl rfl⟩
abbrev mX8_isSeenByCaps : jMI := (yX8_isSeenByCaps, cX8_isSeenByCaps, 4, (some .boolean))
set_option maxRecDepth 20000 in
theorem gm_X8_isSeenByCaps : jmV mX8_isSeenByCaps 2 := ⟨⟨jt5 8 rfl rfl, jt1 12 rfl rfl, (by decide +kernel), by decide⟩, jt5 7 rfl rfl, jsel (n := 7) 29 (by decide +kernel) (by decide +kernel)⟩
abbrev mX8_gatherNeeds : jMI := (yX8_gatherNeeds, cX8_gatherNeeds, 4, none)
set_option maxRecDepth 20000 in
theorem gm_X8_gatherNeeds : jmV mX8_gatherNeeds 1 := ⟨⟨jt5 34 rfl rfl, jt1 12 rfl rfl, (by decide +kernel), by decide⟩, jt5 33 rfl rfl, jsel (n := 7) 31 (by decide +kernel) (by decide +kernel)⟩
abbrev mX8_gatherNeedsOf : jMI := (yX8_gatherNeedsOf, cX8_gatherNeedsOf, 6, none)
set_option maxRecDepth 20000 in
theorem gm_X8_gatherNeedsOf : jmV mX8_gatherNeedsOf 3 := ⟨⟨jt5 42 rfl rfl, jt1 12 rfl rfl, (by decide +kernel), by decide⟩, jt5 41 rfl rfl, jsel (n := 7) 32 (by decide +kernel) (by decide +kernel)⟩
abbrev mX8_cheapestTown : jMI := (yX8_cheapestTown, cX8_cheapestTown, 7, none)
set_option maxRecDepth 20000 in
theorem gm_X8_cheapestTown : jmV mX8_cheapestTown 2 := ⟨⟨jt5 30 rfl rfl, jt1 12 rfl rfl, (by decide +kernel), by decide⟩, jt5 28 rfl rfl, jt5 29 rfl rfl⟩
abbrev mX8_fewestRaised : jMI := (yX8_fewestRaised, cX8_fewestRaised, 2, (some .int))
set_option maxRecDepth 20000 in
theorem gm_X8_fewestRaised : jmV mX8_fewestRaised 1 := ⟨⟨jt5 104 rfl rfl, jt1 12 rfl rfl, (by decide +kernel), by decide⟩, jt5 102 rfl rfl, jt5 103 rfl rfl⟩
abbrev mX8_mustRaise : jMI := (yX8_mustRaise, cX8_mustRaise, 3, (some .boolean))
set_option maxRecDepth 20000 in
theorem gm_X8_mustRaise : jmV mX8_mustRaise 2 := ⟨⟨jt5 153 rfl rfl, jt1 12 rfl rfl, (by decide +kernel), by decide⟩, jt5 151 rfl rfl, jt5 152 rfl rfl⟩
abbrev mX8_countTowns : jMI := (yX8_countTowns, cX8_countTowns, 3, (some .int))
set_option maxRecDepth 20000 in
theorem gm_X8_countTowns : jmV mX8_countTowns 1 := ⟨⟨jt5 117 rfl rfl, jt1 12 rfl rfl, (by decide +kernel), by decide⟩, jt5 115 rfl rfl, jt5 116 rfl rfl⟩
abbrev mX9_init : jMI := (yX9_init, cX9_init, 1, none)
abbrev mX9_lay : jMI := (yX9_lay, cX9_lay, 3, none)
set_option maxRecDepth 20000 in
theorem gm_X9_lay : jmV mX9_lay 2 := ⟨⟨jt3 103 rfl rfl, jt1 16 rfl rfl, (by decide +kernel), by decide⟩, jt3 101 rfl rfl, jt3 102 rfl rfl⟩
abbrev mX9_hasPlaces : jMI := (yX9_hasPlaces, cX9_hasPlaces, 3, (some .boolean))
set_option maxRecDepth 20000 in
theorem gm_X9_hasPlaces : jmV mX9_hasPlaces 2 := ⟨⟨jt3 118 rfl rfl, jt1 16 rfl rfl, (by decide +kernel), by decide⟩, jt3 116 rfl rfl, jt3 117 rfl rfl⟩
abbrev mX9_put : jMI := (yX9_put, cX9_put, 4, none)
set_option maxRecDepth 20000 in
theorem gm_X9_put : jmV mX9_put 2 := ⟨⟨jt3 122 rfl rfl, jt1 16 rfl rfl, (by decide +kernel), by decide⟩, jt3 120 rfl rfl, jt3 121 rfl rfl⟩
abbrev mX9_rowStatus : jMI := (yX9_rowStatus, cX9_rowStatus, 3, (some .int))
set_option maxRecDepth 20000 in
theorem gm_X9_rowStatus : jmV mX9_rowStatus 1 := ⟨⟨jt4 164 rfl rfl, jt1 16 rfl rfl, (by decide +kernel), by decide⟩, jt4 162 rfl rfl, jt4 163 rfl rfl⟩
abbrev mX9_copyHeights : jMI := (yX9_copyHeights, cX9_copyHeights, 6, none)
set_option maxRecDepth 20000 in
theorem gm_X9_copyHeights : jmV mX9_copyHeights 4 := ⟨⟨jt4 170 rfl rfl, jt1 16 rfl rfl, (by decide +kernel), by decide⟩, jt4 168 rfl rfl, jt4 169 rfl rfl⟩
abbrev mX9_beginsLike : jMI := (yX9_beginsLike, cX9_beginsLike, 4, (some .boolean))
set_option maxRecDepth 20000 in
theorem gm_X9_beginsLike : jmV mX9_beginsLike 2 := ⟨⟨jt5 226 rfl rfl, jt1 16 rfl rfl, (by decide +kernel), by decide⟩, jt5 224 rfl rfl, jt5 225 rfl rfl⟩
abbrev mX10_init : jMI := (yX10_init, cX10_init, 1, none)
abbrev mX10_settle : jMI := (yX10_settle, cX10_settle, 2, none)
set_option maxRecDepth 20000 in
theorem gm_X10_settle : jmV mX10_settle 1 := ⟨⟨jt4 13 rfl rfl, jt1 11 rfl rfl, (by decide +kernel), by decide⟩, jt4 11 rfl rfl, jt4 12 rfl rfl⟩
abbrev mX10_copyFrom : jMI := (yX10_copyFrom, cX10_copyFrom, 2, none)
set_option maxRecDepth 20000 in
theorem gm_X10_copyFrom : jmV mX10_copyFrom 1 := ⟨⟨jt6 96 rfl rfl, jt1 11 rfl rfl, (by decide +kernel), by decide⟩, jt6 94 rfl rfl, jt6 95 rfl rfl⟩
abbrev mX11_init : jMI := (yX11_init, cX11_init, 2, none)
abbrev mX11_status : jMI := (yX11_status, cX11_status, 1, (some .int))
set_option maxRecDepth 20000 in
theorem gm_X11_status : jmV mX11_status 0 := ⟨⟨jt3 80 rfl rfl, jt1 1 rfl rfl, (by decide +kernel), by decide⟩, jt3 78 rfl rfl, jt3 79 rfl rfl⟩
abbrev mX11_top : jMI := (yX11_top, cX11_top, 1, (some .long))
set_option maxRecDepth 20000 in
theorem gm_X11_top : jmV mX11_top 0 := ⟨⟨jt3 84 rfl rfl, jt1 1 rfl rfl, (by decide +kernel), by decide⟩, jt3 82 rfl rfl, jt3 83 rfl rfl⟩
abbrev mX11_bottom : jMI := (yX11_bottom, cX11_bottom, 1, (some .long))
set_option maxRecDepth 20000 in
theorem gm_X11_bottom : jmV mX11_bottom 0 := ⟨⟨jt3 88 rfl rfl, jt1 1 rfl rfl, (by decide +kernel), by decide⟩, jt3 86 rfl rfl, jt3 87 rfl rfl⟩
abbrev mX11_tray : jMI := (yX11_tray, cX11_tray, 4, (some .boolean))
set_option maxRecDepth 20000 in
theorem gm_X11_tray : jmV mX11_tray 3 := ⟨⟨jt3 92 rfl rfl, jt1 1 rfl rfl, (by decide +kernel), by decide⟩, jt3 90 rfl rfl, jt3 91 rfl rfl⟩
abbrev mX11_write : jMI := (yX11_write, cX11_write, 6, (some .boolean))
set_option maxRecDepth 20000 in
theorem gm_X11_write : jmV mX11_write 3 := ⟨⟨jt3 110 rfl rfl, jt1 1 rfl rfl, (by decide +kernel), by decide⟩, jt3 108 rfl rfl, jt3 109 rfl rfl⟩
abbrev mX11_read : jMI := (yX11_read, cX11_read, 4, (some .long))
set_option maxRecDepth 20000 in
theorem gm_X11_read : jmV mX11_read 2 := ⟨⟨jt3 126 rfl rfl, jt1 1 rfl rfl, (by decide +kernel), by decide⟩, jt3 124 rfl rfl, jt3 125 rfl rfl⟩
abbrev mX11_pour : jMI := (yX11_pour, cX11_pour, 8, (some .boolean))
set_option maxRecDepth 20000 in
theorem gm_X11_pour : jmV mX11_pour 5 := ⟨⟨jt3 134 rfl rfl, jt1 1 rfl rfl, (by decide +kernel), by decide⟩, jt3 132 rfl rfl, jt3 133 rfl rfl⟩
abbrev mX11_feed : jMI := (yX11_feed, cX11_feed, 6, (some .int))
set_option maxRecDepth 20000 in
theorem gm_X11_feed : jmV mX11_feed 5 := ⟨⟨jt3 141 rfl rfl, jt1 1 rfl rfl, (by decide +kernel), by decide⟩, jt3 139 rfl rfl, jt3 140 rfl rfl⟩
abbrev mX11_plain : jMI := (yX11_plain, cX11_plain, 3, (some .int))
set_option maxRecDepth 20000 in
theorem gm_X11_plain : jmV mX11_plain 1 := ⟨⟨jt3 149 rfl rfl, jt1 1 rfl rfl, (by decide +kernel), by decide⟩, jt3 147 rfl rfl, jt3 148 rfl rfl⟩
abbrev mX11_orders : jMI := (yX11_orders, cX11_orders, 3, (some .int))
set_option maxRecDepth 20000 in
theorem gm_X11_orders : jmV mX11_orders 1 := ⟨⟨jt4 31 rfl rfl, jt1 1 rfl rfl, (by decide +kernel), by decide⟩, jt4 29 rfl rfl, jt4 30 rfl rfl⟩
abbrev mX11_fault : jMI := (yX11_fault, cX11_fault, 2, (some .int))
set_option maxRecDepth 20000 in
theorem gm_X11_fault : jmV mX11_fault 1 := ⟨⟨jt4 97 rfl rfl, jt1 1 rfl rfl, (by decide +kernel), by decide⟩, jt4 95 rfl rfl, jt4 96 rfl rfl⟩
abbrev mX11_many : jMI := (yX11_many, cX11_many, 2, (some .int))
set_option maxRecDepth 20000 in
theorem gm_X11_many : jmV mX11_many 1 := ⟨⟨jt4 101 rfl rfl, jt1 1 rfl rfl, (by decide +kernel), by decide⟩, jt4 99 rfl rfl, jt4 100 rfl rfl⟩
abbrev mX11_cell : jMI := (yX11_cell, cX11_cell, 4, (some .int))
set_option maxRecDepth 20000 in
theorem gm_X11_cell : jmV mX11_cell 2 := ⟨⟨jt4 105 rfl rfl, jt1 1 rfl rfl, (by decide +kernel), by decide⟩, jt4 103 rfl rfl, jt4 104 rfl rfl⟩
abbrev mX11_village : jMI := (yX11_village, cX11_village, 4, (some .int))
set_option maxRecDepth 20000 in
theorem gm_X11_village : jmV mX11_village 2 := ⟨⟨jt4 113 rfl rfl, jt1 1 rfl rfl, (by decide +kernel), by decide⟩, jt4 111 rfl rfl, jt4 112 rfl rfl⟩
abbrev mX11_promised : jMI := (yX11_promised, cX11_promised, 4, (some .int))
set_option maxRecDepth 20000 in
theorem gm_X11_promised : jmV mX11_promised 2 := ⟨⟨jt4 126 rfl rfl, jt1 1 rfl rfl, (by decide +kernel), by decide⟩, jt4 124 rfl rfl, jt4 125 rfl rfl⟩
abbrev mX11_strip : jMI := (yX11_strip, cX11_strip, 3, (some .int))
set_option maxRecDepth 20000 in
theorem gm_X11_strip : jmV mX11_strip 2 := ⟨⟨jt4 136 rfl rfl, jt1 1 rfl rfl, (by decide +kernel), by decide⟩, jt4 134 rfl rfl, jt4 135 rfl rfl⟩
abbrev mX11_height : jMI := (yX11_height, cX11_height, 2, (some .int))
set_option maxRecDepth 20000 in
theorem gm_X11_height : jmV mX11_height 1 := ⟨⟨jt4 144 rfl rfl, jt1 1 rfl rfl, (by decide +kernel), by decide⟩, jt4 142 rfl rfl, jt4 143 rfl rfl⟩
abbrev mX11_build : jMI := (yX11_build, cX11_build, 3, (some .boolean))
set_option maxRecDepth 20000 in
theorem gm_X11_build : jmV mX11_build 2 := ⟨⟨jt4 148 rfl rfl, jt1 1 rfl rfl, (by decide +kernel), by decide⟩, jt4 146 rfl rfl, jt4 147 rfl rfl⟩
abbrev mX11_buildAll : jMI := (yX11_buildAll, cX11_buildAll, 3, (some .boolean))
set_option maxRecDepth 20000 in
theorem gm_X11_buildAll : jmV mX11_buildAll 1 := ⟨⟨jt4 156 rfl rfl, jt1 1 rfl rfl, (by decide +kernel), by decide⟩, jt4 154 rfl rfl, jt4 155 rfl rfl⟩
abbrev mX11_seen : jMI := (yX11_seen, cX11_seen, 3, (some .int))
set_option maxRecDepth 20000 in
theorem gm_X11_seen : jmV mX11_seen 2 := ⟨⟨jt4 174 rfl rfl, jt1 1 rfl rfl, (by decide +kernel), by decide⟩, jt4 172 rfl rfl, jt4 173 rfl rfl⟩
abbrev mX11_otherwise : jMI := (yX11_otherwise, cX11_otherwise, 3, (some .int))
set_option maxRecDepth 20000 in
theorem gm_X11_otherwise : jmV mX11_otherwise 1 := ⟨⟨jt4 186 rfl rfl, jt1 1 rfl rfl, (by decide +kernel), by decide⟩, jt4 184 rfl rfl, jt4 185 rfl rfl⟩
abbrev mX11_stone : jMI := (yX11_stone, cX11_stone, 1, (some .int))
set_option maxRecDepth 20000 in
theorem gm_X11_stone : jmV mX11_stone 0 := ⟨⟨jt4 204 rfl rfl, jt1 1 rfl rfl, (by decide +kernel), by decide⟩, jt4 202 rfl rfl, jt4 203 rfl rfl⟩
abbrev mX11_cap : jMI := (yX11_cap, cX11_cap, 3, (some .int))
set_option maxRecDepth 20000 in
theorem gm_X11_cap : jmV mX11_cap 2 := ⟨⟨jt4 212 rfl rfl, jt1 1 rfl rfl, (by decide +kernel), by decide⟩, jt4 210 rfl rfl, jt4 211 rfl rfl⟩
abbrev mX11_can : jMI := (yX11_can, cX11_can, 2, (some .int))
set_option maxRecDepth 20000 in
theorem gm_X11_can : jmV mX11_can 1 := ⟨⟨jt4 235 rfl rfl, jt1 1 rfl rfl, (by decide +kernel), by decide⟩, jt4 233 rfl rfl, jt4 234 rfl rfl⟩
abbrev mX11_barred : jMI := (yX11_barred, cX11_barred, 3, (some .int))
set_option maxRecDepth 20000 in
theorem gm_X11_barred : jmV mX11_barred 2 := ⟨⟨jt5 14 rfl rfl, jt1 1 rfl rfl, (by decide +kernel), by decide⟩, jt5 12 rfl rfl, jt5 13 rfl rfl⟩
abbrev mX11_largest : jMI := (yX11_largest, cX11_largest, 3, (some .int))
set_option maxRecDepth 20000 in
theorem gm_X11_largest : jmV mX11_largest 1 := ⟨⟨jt5 18 rfl rfl, jt1 1 rfl rfl, (by decide +kernel), by decide⟩, jt5 16 rfl rfl, jt5 17 rfl rfl⟩
abbrev mX11_cheapest : jMI := (yX11_cheapest, cX11_cheapest, 3, (some .int))
set_option maxRecDepth 20000 in
theorem gm_X11_cheapest : jmV mX11_cheapest 1 := ⟨⟨jt5 26 rfl rfl, jt1 1 rfl rfl, (by decide +kernel), by decide⟩, jt5 24 rfl rfl, jt5 25 rfl rfl⟩
abbrev mX11_least : jMI := (yX11_least, cX11_least, 5, (some .int))
set_option maxRecDepth 20000 in
theorem gm_X11_least : jmV mX11_least 1 := ⟨⟨jt5 89 rfl rfl, jt1 1 rfl rfl, (by decide +kernel), by decide⟩, jt5 87 rfl rfl, jt5 88 rfl rfl⟩
abbrev mX11_courts : jMI := (yX11_courts, cX11_courts, 3, (some .int))
set_option maxRecDepth 20000 in
theorem gm_X11_courts : jmV mX11_courts 1 := ⟨⟨jt5 100 rfl rfl, jt1 1 rfl rfl, (by decide +kernel), by decide⟩, jt5 98 rfl rfl, jt5 99 rfl rfl⟩
abbrev mX11_towns : jMI := (yX11_towns, cX11_towns, 2, (some .int))
set_option maxRecDepth 20000 in
theorem gm_X11_towns : jmV mX11_towns 1 := ⟨⟨jt5 109 rfl rfl, jt1 1 rfl rfl, (by decide +kernel), by decide⟩, jt5 107 rfl rfl, jt5 108 rfl rfl⟩
abbrev mX11_sure : jMI := (yX11_sure, cX11_sure, 5, (some .int))
set_option maxRecDepth 20000 in
theorem gm_X11_sure : jmV mX11_sure 3 := ⟨⟨jt5 149 rfl rfl, jt1 1 rfl rfl, (by decide +kernel), by decide⟩, jt5 147 rfl rfl, jt5 148 rfl rfl⟩
abbrev mX11_struck : jMI := (yX11_struck, cX11_struck, 5, (some .int))
set_option maxRecDepth 20000 in
theorem gm_X11_struck : jmV mX11_struck 0 := ⟨⟨jt5 157 rfl rfl, jt1 1 rfl rfl, (by decide +kernel), by decide⟩, jt5 155 rfl rfl, jt5 156 rfl rfl⟩
abbrev mX11_down : jMI := (yX11_down, cX11_down, 6, (some .int))
set_option maxRecDepth 20000 in
theorem gm_X11_down : jmV mX11_down 1 := ⟨⟨jt5 162 rfl rfl, jt1 1 rfl rfl, (by decide +kernel), by decide⟩, jt5 160 rfl rfl, jt5 161 rfl rfl⟩
abbrev mX11_instead : jMI := (yX11_instead, cX11_instead, 3, (some .int))
set_option maxRecDepth 20000 in
theorem gm_X11_instead : jmV mX11_instead 1 := ⟨⟨jt5 167 rfl rfl, jt1 1 rfl rfl, (by decide +kernel), by decide⟩, jt5 165 rfl rfl, jt5 166 rfl rfl⟩
abbrev mX11_apart : jMI := (yX11_apart, cX11_apart, 7, (some .int))
set_option maxRecDepth 20000 in
theorem gm_X11_apart : jmV mX11_apart 3 := ⟨⟨jt5 183 rfl rfl, jt1 1 rfl rfl, (by decide +kernel), by decide⟩, jt5 181 rfl rfl, jt5 182 rfl rfl⟩
abbrev mX11_watchers : jMI := (yX11_watchers, cX11_watchers, 5, (some .int))
set_option maxRecDepth 20000 in
theorem gm_X11_watchers : jmV mX11_watchers 2 := ⟨⟨jt5 196 rfl rfl, jt1 1 rfl rfl, (by decide +kernel), by decide⟩, jt5 194 rfl rfl, jt5 195 rfl rfl⟩
abbrev mX11_tenth : jMI := (yX11_tenth, cX11_tenth, 6, (some .int))
set_option maxRecDepth 20000 in
theorem gm_X11_tenth : jmV mX11_tenth 2 := ⟨⟨jt5 220 rfl rfl, jt1 1 rfl rfl, (by decide +kernel), by decide⟩, jt5 218 rfl rfl, jt5 219 rfl rfl⟩
abbrev mX11_order : jMI := (yX11_order, cX11_order, 4, (some .int))
set_option maxRecDepth 20000 in
theorem gm_X11_order : jmV mX11_order 1 := ⟨⟨jt5 230 rfl rfl, jt1 1 rfl rfl, (by decide +kernel), by decide⟩, jt5 228 rfl rfl, jt5 229 rfl rfl⟩
abbrev mX11_orderAt : jMI := (yX11_orderAt, cX11_orderAt, 2, (some .int))
set_option maxRecDepth 20000 in
theorem gm_X11_orderAt : jmV mX11_orderAt 1 := ⟨⟨jt6 14 rfl rfl, jt1 1 rfl rfl, (by decide +kernel), by decide⟩, jt6 12 rfl rfl, jt6 13 rfl rfl⟩
abbrev mX11_like : jMI := (yX11_like, cX11_like, 6, (some .int))
set_option maxRecDepth 20000 in
theorem gm_X11_like : jmV mX11_like 2 := ⟨⟨jt6 18 rfl rfl, jt1 1 rfl rfl, (by decide +kernel), by decide⟩, jt6 16 rfl rfl, jt6 17 rfl rfl⟩
abbrev mX11_highest : jMI := (yX11_highest, cX11_highest, 3, (some .int))
set_option maxRecDepth 20000 in
theorem gm_X11_highest : jmV mX11_highest 0 := ⟨⟨jt6 26 rfl rfl, jt1 1 rfl rfl, (by decide +kernel), by decide⟩, jt6 24 rfl rfl, jt6 25 rfl rfl⟩
abbrev mX11_built : jMI := (yX11_built, cX11_built, 2, (some .int))
set_option maxRecDepth 20000 in
theorem gm_X11_built : jmV mX11_built 1 := ⟨⟨jt6 36 rfl rfl, jt1 1 rfl rfl, (by decide +kernel), by decide⟩, jt6 34 rfl rfl, jt6 35 rfl rfl⟩
abbrev mX11_building : jMI := (yX11_building, cX11_building, 3, (some .int))
set_option maxRecDepth 20000 in
theorem gm_X11_building : jmV mX11_building 1 := ⟨⟨jt6 84 rfl rfl, jt1 1 rfl rfl, (by decide +kernel), by decide⟩, jt6 82 rfl rfl, jt6 83 rfl rfl⟩
abbrev mX11_tally : jMI := (yX11_tally, cX11_tally, 5, (some .int))
set_option maxRecDepth 20000 in
theorem gm_X11_tally : jmV mX11_tally 2 := ⟨⟨jt6 88 rfl rfl, jt1 1 rfl rfl, (by decide +kernel), by decide⟩, jt6 86 rfl rfl, jt6 87 rfl rfl⟩
abbrev mX11_mark : jMI := (yX11_mark, cX11_mark, 1, (some .int))
set_option maxRecDepth 20000 in
theorem gm_X11_mark : jmV mX11_mark 0 := ⟨⟨jt6 92 rfl rfl, jt1 1 rfl rfl, (by decide +kernel), by decide⟩, jt6 90 rfl rfl, jt6 91 rfl rfl⟩
abbrev mX11_back : jMI := (yX11_back, cX11_back, 1, (some .int))
set_option maxRecDepth 20000 in
theorem gm_X11_back : jmV mX11_back 0 := ⟨⟨jt6 101 rfl rfl, jt1 1 rfl rfl, (by decide +kernel), by decide⟩, jt6 99 rfl rfl, jt6 100 rfl rfl⟩
abbrev mX11_answered : jMI := (yX11_answered, cX11_answered, 2, (some .int))
set_option maxRecDepth 20000 in
theorem gm_X11_answered : jmV mX11_answered 1 := ⟨⟨jt4 27 rfl rfl, jt1 1 rfl rfl, (by decide +kernel), by decide⟩, jt4 26 rfl rfl, jsel (n := 17) 14 (by decide +kernel) (by decide +kernel)⟩
abbrev mX11_refused : jMI := (yX11_refused, cX11_refused, 2, (some .int))
set_option maxRecDepth 20000 in
theorem gm_X11_refused : jmV mX11_refused 1 := ⟨⟨jt3 130 rfl rfl, jt1 1 rfl rfl, (by decide +kernel), by decide⟩, jt3 129 rfl rfl, jsel (n := 17) 2 (by decide +kernel) (by decide +kernel)⟩
abbrev mX11_isDone : jMI := (yX11_isDone, cX11_isDone, 2, (some .boolean))
set_option maxRecDepth 20000 in
theorem gm_X11_isDone : jmV mX11_isDone 1 := ⟨⟨jt3 99 rfl rfl, jt1 1 rfl rfl, (by decide +kernel), by decide⟩, jt3 98 rfl rfl, jsel (n := 17) 0 (by decide +kernel) (by decide +kernel)⟩
abbrev mX11_putBytes : jMI := (yX11_putBytes, cX11_putBytes, 3, none)
set_option maxRecDepth 20000 in
theorem gm_X11_putBytes : jmV mX11_putBytes 1 := ⟨⟨jt3 145 rfl rfl, jt1 1 rfl rfl, (by decide +kernel), by decide⟩, jt3 144 rfl rfl, jsel (n := 17) 3 (by decide +kernel) (by decide +kernel)⟩
abbrev mX11_tellFault : jMI := (yX11_tellFault, cX11_tellFault, 2, none)
set_option maxRecDepth 20000 in
theorem gm_X11_tellFault : jmV mX11_tellFault 1 := ⟨⟨jt4 9 rfl rfl, jt1 1 rfl rfl, (by decide +kernel), by decide⟩, jt4 8 rfl rfl, jsel (n := 17) 13 (by decide +kernel) (by decide +kernel)⟩
abbrev mX11_tellFraction : jMI := (yX11_tellFraction, cX11_tellFraction, 4, none)
set_option maxRecDepth 20000 in
theorem gm_X11_tellFraction : jmV mX11_tellFraction 2 := ⟨⟨jt5 93 rfl rfl, jt1 1 rfl rfl, (by decide +kernel), by decide⟩, jt5 92 rfl rfl, jsel (n := 17) 36 (by decide +kernel) (by decide +kernel)⟩
abbrev mX11_commonDivisor : jMI := (yX11_commonDivisor, cX11_commonDivisor, 6, (some .int))
set_option maxRecDepth 20000 in
theorem gm_X11_commonDivisor : jmS mX11_commonDivisor 2 := ⟨⟨jt5 96 rfl rfl, jt1 1 rfl rfl, (by decide +kernel), by decide⟩, jt5 95 rfl rfl⟩
abbrev mX11_isTray : jMI := (yX11_isTray, cX11_isTray, 1, (some .boolean))
set_option maxRecDepth 20000 in
theorem gm_X11_isTray : jmS mX11_isTray 1 := ⟨⟨jt3 95 rfl rfl, jt1 1 rfl rfl, (by decide +kernel), by decide⟩, jt3 94 rfl rfl⟩
abbrev mX11_isHeight : jMI := (yX11_isHeight, cX11_isHeight, 2, (some .boolean))
set_option maxRecDepth 20000 in
theorem gm_X11_isHeight : jmS mX11_isHeight 1 := ⟨⟨jt4 151 rfl rfl, jt1 1 rfl rfl, (by decide +kernel), by decide⟩, jt4 150 rfl rfl⟩
abbrev mX11_isSeed : jMI := (yX11_isSeed, cX11_isSeed, 1, (some .boolean))
set_option maxRecDepth 20000 in
theorem gm_X11_isSeed : jmS mX11_isSeed 1 := ⟨⟨jt6 39 rfl rfl, jt1 1 rfl rfl, (by decide +kernel), by decide⟩, jt6 38 rfl rfl⟩
abbrev mX11_trayPlaceStatus : jMI := (yX11_trayPlaceStatus, cX11_trayPlaceStatus, 3, (some .int))
set_option maxRecDepth 20000 in
theorem gm_X11_trayPlaceStatus : jmV mX11_trayPlaceStatus 2 := ⟨⟨jt3 114 rfl rfl, jt1 1 rfl rfl, (by decide +kernel), by decide⟩, jt3 113 rfl rfl, jsel (n := 17) 1 (by decide +kernel) (by decide +kernel)⟩
abbrev mX11_trayRowStatus : jMI := (yX11_trayRowStatus, cX11_trayRowStatus, 3, (some .int))
set_option maxRecDepth 20000 in
theorem gm_X11_trayRowStatus : jmV mX11_trayRowStatus 2 := ⟨⟨jt4 160 rfl rfl, jt1 1 rfl rfl, (by decide +kernel), by decide⟩, jt4 159 rfl rfl, jsel (n := 17) 25 (by decide +kernel) (by decide +kernel)⟩
abbrev mX11_toldStatus : jMI := (yX11_toldStatus, cX11_toldStatus, 6, (some .int))
set_option maxRecDepth 20000 in
theorem gm_X11_toldStatus : jmV mX11_toldStatus 5 := ⟨⟨jt5 200 rfl rfl, jt1 1 rfl rfl, (by decide +kernel), by decide⟩, jt5 199 rfl rfl, jsel (n := 17) 42 (by decide +kernel) (by decide +kernel)⟩
abbrev mX11_coupleStatus : jMI := (yX11_coupleStatus, cX11_coupleStatus, 5, (some .int))
set_option maxRecDepth 20000 in
theorem gm_X11_coupleStatus : jmS mX11_coupleStatus 3 := ⟨⟨jt5 186 rfl rfl, jt1 1 rfl rfl, (by decide +kernel), by decide⟩, jt5 185 rfl rfl⟩
abbrev mX11_keptStatus : jMI := (yX11_keptStatus, cX11_keptStatus, 2, (some .int))
set_option maxRecDepth 20000 in
theorem gm_X11_keptStatus : jmV mX11_keptStatus 1 := ⟨⟨jt5 22 rfl rfl, jt1 1 rfl rfl, (by decide +kernel), by decide⟩, jt5 21 rfl rfl, jsel (n := 17) 30 (by decide +kernel) (by decide +kernel)⟩
abbrev mX11_canKeep : jMI := (yX11_canKeep, cX11_canKeep, 2, (some .boolean))
set_option maxRecDepth 20000 in
theorem gm_X11_canKeep : jmV mX11_canKeep 1 := ⟨⟨jt4 239 rfl rfl, jt1 1 rfl rfl, (by decide +kernel), by decide⟩, jt4 238 rfl rfl, jsel (n := 17) 28 (by decide +kernel) (by decide +kernel)⟩
abbrev mX12_init : jMI := (yX12_init, cX12_init, 2, none)
abbrev mX12_status : jMI := (yX12_status, cX12_status, 1, (some .int))
set_option maxRecDepth 20000 in
theorem gm_X12_status : jmV mX12_status 0 := ⟨⟨jt7 35 rfl rfl, jt1 17 rfl rfl, (by decide +kernel), by decide⟩, jt7 33 rfl rfl, jt7 34 rfl rfl⟩
abbrev mX12_top : jMI := (yX12_top, cX12_top, 1, (some .long))
set_option maxRecDepth 20000 in
theorem gm_X12_top : jmV mX12_top 0 := ⟨⟨jt7 39 rfl rfl, jt1 17 rfl rfl, (by decide +kernel), by decide⟩, jt7 37 rfl rfl, jt7 38 rfl rfl⟩
abbrev mX12_bottom : jMI := (yX12_bottom, cX12_bottom, 1, (some .long))
set_option maxRecDepth 20000 in
theorem gm_X12_bottom : jmV mX12_bottom 0 := ⟨⟨jt7 43 rfl rfl, jt1 17 rfl rfl, (by decide +kernel), by decide⟩, jt7 41 rfl rfl, jt7 42 rfl rfl⟩
abbrev mX12_refuse : jMI := (yX12_refuse, cX12_refuse, 2, (some .int))
set_option maxRecDepth 20000 in
theorem gm_X12_refuse : jmV mX12_refuse 1 := ⟨⟨jt8 31 rfl rfl, jt1 17 rfl rfl, (by decide +kernel), by decide⟩, jt8 30 rfl rfl, jsel (n := 54) 94 (by decide +kernel) (by decide +kernel)⟩
abbrev mX12_no : jMI := (yX12_no, cX12_no, 2, (some .boolean))
set_option maxRecDepth 20000 in
theorem gm_X12_no : jmV mX12_no 1 := ⟨⟨jt7 51 rfl rfl, jt1 17 rfl rfl, (by decide +kernel), by decide⟩, jt7 50 rfl rfl, jsel (n := 54) 52 (by decide +kernel) (by decide +kernel)⟩
abbrev mX12_isIn : jMI := (yX12_isIn, cX12_isIn, 6, (some .boolean))
set_option maxRecDepth 20000 in
theorem gm_X12_isIn : jmS mX12_isIn 3 := ⟨⟨jt7 120 rfl rfl, jt1 17 rfl rfl, (by decide +kernel), by decide⟩, jt7 119 rfl rfl⟩
abbrev mX12_fraction : jMI := (yX12_fraction, cX12_fraction, 11, (some .boolean))
set_option maxRecDepth 20000 in
theorem gm_X12_fraction : jmV mX12_fraction 2 := ⟨⟨jt8 190 rfl rfl, jt1 17 rfl rfl, (by decide +kernel), by decide⟩, jt8 189 rfl rfl, jsel (n := 54) 116 (by decide +kernel) (by decide +kernel)⟩
abbrev mX12_cut : jMI := (yX12_cut, cX12_cut, 3, (some .long))
set_option maxRecDepth 20000 in
theorem gm_X12_cut : jmS mX12_cut 2 := ⟨⟨jt7 66 rfl rfl, jt1 17 rfl rfl, (by decide +kernel), by decide⟩, jt7 65 rfl rfl⟩
abbrev mX12_tray : jMI := (yX12_tray, cX12_tray, 5, (some .boolean))
set_option maxRecDepth 20000 in
theorem gm_X12_tray : jmV mX12_tray 3 := ⟨⟨jt7 47 rfl rfl, jt1 17 rfl rfl, (by decide +kernel), by decide⟩, jt7 45 rfl rfl, jt7 46 rfl rfl⟩
abbrev mX12_trayed : jMI := (yX12_trayed, cX12_trayed, 2, (some .int))
set_option maxRecDepth 20000 in
theorem gm_X12_trayed : jmV mX12_trayed 1 := ⟨⟨jt7 63 rfl rfl, jt1 17 rfl rfl, (by decide +kernel), by decide⟩, jt7 62 rfl rfl, jsel (n := 54) 54 (by decide +kernel) (by decide +kernel)⟩
abbrev mX12_placed : jMI := (yX12_placed, cX12_placed, 4, (some .int))
set_option maxRecDepth 20000 in
theorem gm_X12_placed : jmV mX12_placed 2 := ⟨⟨jt7 59 rfl rfl, jt1 17 rfl rfl, (by decide +kernel), by decide⟩, jt7 58 rfl rfl, jsel (n := 54) 53 (by decide +kernel) (by decide +kernel)⟩
abbrev mX12_write : jMI := (yX12_write, cX12_write, 5, (some .boolean))
set_option maxRecDepth 20000 in
theorem gm_X12_write : jmV mX12_write 3 := ⟨⟨jt7 55 rfl rfl, jt1 17 rfl rfl, (by decide +kernel), by decide⟩, jt7 53 rfl rfl, jt7 54 rfl rfl⟩
abbrev mX12_read : jMI := (yX12_read, cX12_read, 3, (some .long))
set_option maxRecDepth 20000 in
theorem gm_X12_read : jmV mX12_read 2 := ⟨⟨jt7 70 rfl rfl, jt1 17 rfl rfl, (by decide +kernel), by decide⟩, jt7 68 rfl rfl, jt7 69 rfl rfl⟩
abbrev mX12_pour : jMI := (yX12_pour, cX12_pour, 9, (some .boolean))
set_option maxRecDepth 20000 in
theorem gm_X12_pour : jmV mX12_pour 5 := ⟨⟨jt7 75 rfl rfl, jt1 17 rfl rfl, (by decide +kernel), by decide⟩, jt7 73 rfl rfl, jt7 74 rfl rfl⟩
abbrev mX12_numberOf : jMI := (yX12_numberOf, cX12_numberOf, 3, (some .long))
set_option maxRecDepth 20000 in
theorem gm_X12_numberOf : jmV mX12_numberOf 2 := ⟨⟨jt8 93 rfl rfl, jt1 17 rfl rfl, (by decide +kernel), by decide⟩, jt8 92 rfl rfl, jsel (n := 54) 102 (by decide +kernel) (by decide +kernel)⟩
abbrev mX12_isTray : jMI := (yX12_isTray, cX12_isTray, 2, (some .boolean))
set_option maxRecDepth 20000 in
theorem gm_X12_isTray : jmV mX12_isTray 1 := ⟨⟨jt8 85 rfl rfl, jt1 17 rfl rfl, (by decide +kernel), by decide⟩, jt8 84 rfl rfl, jsel (n := 54) 100 (by decide +kernel) (by decide +kernel)⟩
abbrev mX12_look2 : jMI := (yX12_look2, cX12_look2, 2, (some .int))
set_option maxRecDepth 20000 in
theorem gm_X12_look2 : jmV mX12_look2 1 := ⟨⟨jt7 103 rfl rfl, jt1 17 rfl rfl, (by decide +kernel), by decide⟩, jt7 102 rfl rfl, jsel (n := 54) 58 (by decide +kernel) (by decide +kernel)⟩
abbrev mX12_isLetter : jMI := (yX12_isLetter, cX12_isLetter, 1, (some .boolean))
set_option maxRecDepth 20000 in
theorem gm_X12_isLetter : jmS mX12_isLetter 1 := ⟨⟨jt7 106 rfl rfl, jt1 17 rfl rfl, (by decide +kernel), by decide⟩, jt7 105 rfl rfl⟩
abbrev mX12_isDigit : jMI := (yX12_isDigit, cX12_isDigit, 1, (some .boolean))
set_option maxRecDepth 20000 in
theorem gm_X12_isDigit : jmS mX12_isDigit 1 := ⟨⟨jt7 111 rfl rfl, jt1 17 rfl rfl, (by decide +kernel), by decide⟩, jt7 110 rfl rfl⟩
abbrev mX12_isSignByte : jMI := (yX12_isSignByte, cX12_isSignByte, 2, (some .boolean))
set_option maxRecDepth 20000 in
theorem gm_X12_isSignByte : jmV mX12_isSignByte 1 := ⟨⟨jt7 115 rfl rfl, jt1 17 rfl rfl, (by decide +kernel), by decide⟩, jt7 114 rfl rfl, jsel (n := 54) 59 (by decide +kernel) (by decide +kernel)⟩
abbrev mX12_next : jMI := (yX12_next, cX12_next, 2, none)
set_option maxRecDepth 20000 in
theorem gm_X12_next : jmV mX12_next 0 := ⟨⟨jt7 99 rfl rfl, jt1 17 rfl rfl, (by decide +kernel), by decide⟩, jt7 98 rfl rfl, jsel (n := 54) 57 (by decide +kernel) (by decide +kernel)⟩
abbrev mX12_isSign : jMI := (yX12_isSign, cX12_isSign, 2, (some .boolean))
set_option maxRecDepth 20000 in
theorem gm_X12_isSign : jmV mX12_isSign 1 := ⟨⟨jt7 153 rfl rfl, jt1 17 rfl rfl, (by decide +kernel), by decide⟩, jt7 152 rfl rfl, jsel (n := 54) 66 (by decide +kernel) (by decide +kernel)⟩
abbrev mX12_spelled : jMI := (yX12_spelled, cX12_spelled, 8, (some .long))
set_option maxRecDepth 20000 in
theorem gm_X12_spelled : jmS mX12_spelled 6 := ⟨⟨jt7 129 rfl rfl, jt1 17 rfl rfl, (by decide +kernel), by decide⟩, jt7 128 rfl rfl⟩
abbrev mX12_isWord : jMI := (yX12_isWord, cX12_isWord, 3, (some .boolean))
set_option maxRecDepth 20000 in
theorem gm_X12_isWord : jmV mX12_isWord 1 := ⟨⟨jt7 133 rfl rfl, jt1 17 rfl rfl, (by decide +kernel), by decide⟩, jt7 132 rfl rfl, jsel (n := 54) 61 (by decide +kernel) (by decide +kernel)⟩
abbrev mX12_sideWord : jMI := (yX12_sideWord, cX12_sideWord, 1, (some .int))
set_option maxRecDepth 20000 in
theorem gm_X12_sideWord : jmV mX12_sideWord 0 := ⟨⟨jt7 194 rfl rfl, jt1 17 rfl rfl, (by decide +kernel), by decide⟩, jt7 193 rfl rfl, jsel (n := 54) 76 (by decide +kernel) (by decide +kernel)⟩
abbrev mX12_isSize : jMI := (yX12_isSize, cX12_isSize, 1, (some .boolean))
set_option maxRecDepth 20000 in
theorem gm_X12_isSize : jmV mX12_isSize 0 := ⟨⟨jt7 126 rfl rfl, jt1 17 rfl rfl, (by decide +kernel), by decide⟩, jt7 125 rfl rfl, jsel (n := 54) 60 (by decide +kernel) (by decide +kernel)⟩
abbrev mX12_isMost : jMI := (yX12_isMost, cX12_isMost, 1, (some .boolean))
set_option maxRecDepth 20000 in
theorem gm_X12_isMost : jmV mX12_isMost 0 := ⟨⟨jt7 157 rfl rfl, jt1 17 rfl rfl, (by decide +kernel), by decide⟩, jt7 156 rfl rfl, jsel (n := 54) 67 (by decide +kernel) (by decide +kernel)⟩
abbrev mX12_isLeast : jMI := (yX12_isLeast, cX12_isLeast, 1, (some .boolean))
set_option maxRecDepth 20000 in
theorem gm_X12_isLeast : jmV mX12_isLeast 0 := ⟨⟨jt7 169 rfl rfl, jt1 17 rfl rfl, (by decide +kernel), by decide⟩, jt7 168 rfl rfl, jsel (n := 54) 70 (by decide +kernel) (by decide +kernel)⟩
abbrev mX12_isPrice : jMI := (yX12_isPrice, cX12_isPrice, 1, (some .boolean))
set_option maxRecDepth 20000 in
theorem gm_X12_isPrice : jmV mX12_isPrice 0 := ⟨⟨jt7 173 rfl rfl, jt1 17 rfl rfl, (by decide +kernel), by decide⟩, jt7 172 rfl rfl, jsel (n := 54) 71 (by decide +kernel) (by decide +kernel)⟩
abbrev mX12_isVillageWord : jMI := (yX12_isVillageWord, cX12_isVillageWord, 1, (some .boolean))
set_option maxRecDepth 20000 in
theorem gm_X12_isVillageWord : jmV mX12_isVillageWord 0 := ⟨⟨jt7 177 rfl rfl, jt1 17 rfl rfl, (by decide +kernel), by decide⟩, jt7 176 rfl rfl, jsel (n := 54) 72 (by decide +kernel) (by decide +kernel)⟩
abbrev mX12_isSees : jMI := (yX12_isSees, cX12_isSees, 1, (some .boolean))
set_option maxRecDepth 20000 in
theorem gm_X12_isSees : jmV mX12_isSees 0 := ⟨⟨jt7 198 rfl rfl, jt1 17 rfl rfl, (by decide +kernel), by decide⟩, jt7 197 rfl rfl, jsel (n := 54) 77 (by decide +kernel) (by decide +kernel)⟩
abbrev mX12_isRaise : jMI := (yX12_isRaise, cX12_isRaise, 1, (some .boolean))
set_option maxRecDepth 20000 in
theorem gm_X12_isRaise : jmV mX12_isRaise 0 := ⟨⟨jt7 202 rfl rfl, jt1 17 rfl rfl, (by decide +kernel), by decide⟩, jt7 201 rfl rfl, jsel (n := 54) 78 (by decide +kernel) (by decide +kernel)⟩
abbrev mX12_isLower : jMI := (yX12_isLower, cX12_isLower, 1, (some .boolean))
set_option maxRecDepth 20000 in
theorem gm_X12_isLower : jmV mX12_isLower 0 := ⟨⟨jt7 206 rfl rfl, jt1 17 rfl rfl, (by decide +kernel), by decide⟩, jt7 205 rfl rfl, jsel (n := 54) 79 (by decide +kernel) (by decide +kernel)⟩
abbrev mX12_isBy : jMI := (yX12_isBy, cX12_isBy, 1, (some .boolean))
set_option maxRecDepth 20000 in
theorem gm_X12_isBy : jmV mX12_isBy 0 := ⟨⟨jt7 210 rfl rfl, jt1 17 rfl rfl, (by decide +kernel), by decide⟩, jt7 209 rfl rfl, jsel (n := 54) 80 (by decide +kernel) (by decide +kernel)⟩
abbrev mX12_isStorm : jMI := (yX12_isStorm, cX12_isStorm, 1, (some .boolean))
set_option maxRecDepth 20000 in
theorem gm_X12_isStorm : jmV mX12_isStorm 0 := ⟨⟨jt7 214 rfl rfl, jt1 17 rfl rfl, (by decide +kernel), by decide⟩, jt7 213 rfl rfl, jsel (n := 54) 81 (by decide +kernel) (by decide +kernel)⟩
abbrev mX12_isWhen : jMI := (yX12_isWhen, cX12_isWhen, 1, (some .boolean))
set_option maxRecDepth 20000 in
theorem gm_X12_isWhen : jmV mX12_isWhen 0 := ⟨⟨jt7 218 rfl rfl, jt1 17 rfl rfl, (by decide +kernel), by decide⟩, jt7 217 rfl rfl, jsel (n := 54) 82 (by decide +kernel) (by decide +kernel)⟩
abbrev mX12_isCellWord : jMI := (yX12_isCellWord, cX12_isCellWord, 1, (some .boolean))
set_option maxRecDepth 20000 in
theorem gm_X12_isCellWord : jmV mX12_isCellWord 0 := ⟨⟨jt7 222 rfl rfl, jt1 17 rfl rfl, (by decide +kernel), by decide⟩, jt7 221 rfl rfl, jsel (n := 54) 83 (by decide +kernel) (by decide +kernel)⟩
abbrev mX12_isAt : jMI := (yX12_isAt, cX12_isAt, 1, (some .boolean))
set_option maxRecDepth 20000 in
theorem gm_X12_isAt : jmV mX12_isAt 0 := ⟨⟨jt7 226 rfl rfl, jt1 17 rfl rfl, (by decide +kernel), by decide⟩, jt7 225 rfl rfl, jsel (n := 54) 84 (by decide +kernel) (by decide +kernel)⟩
abbrev mX12_isSame : jMI := (yX12_isSame, cX12_isSame, 1, (some .boolean))
set_option maxRecDepth 20000 in
theorem gm_X12_isSame : jmV mX12_isSame 0 := ⟨⟨jt7 230 rfl rfl, jt1 17 rfl rfl, (by decide +kernel), by decide⟩, jt7 229 rfl rfl, jsel (n := 54) 85 (by decide +kernel) (by decide +kernel)⟩
abbrev mX12_isStone : jMI := (yX12_isStone, cX12_isStone, 1, (some .boolean))
set_option maxRecDepth 20000 in
theorem gm_X12_isStone : jmV mX12_isStone 0 := ⟨⟨jt7 234 rfl rfl, jt1 17 rfl rfl, (by decide +kernel), by decide⟩, jt7 233 rfl rfl, jsel (n := 54) 86 (by decide +kernel) (by decide +kernel)⟩
abbrev mX12_isLoop : jMI := (yX12_isLoop, cX12_isLoop, 1, (some .boolean))
set_option maxRecDepth 20000 in
theorem gm_X12_isLoop : jmV mX12_isLoop 0 := ⟨⟨jt7 238 rfl rfl, jt1 17 rfl rfl, (by decide +kernel), by decide⟩, jt7 237 rfl rfl, jsel (n := 54) 87 (by decide +kernel) (by decide +kernel)⟩
abbrev mX12_isEnd : jMI := (yX12_isEnd, cX12_isEnd, 1, (some .boolean))
set_option maxRecDepth 20000 in
theorem gm_X12_isEnd : jmV mX12_isEnd 0 := ⟨⟨jt8 2 rfl rfl, jt1 17 rfl rfl, (by decide +kernel), by decide⟩, jt8 1 rfl rfl, jsel (n := 54) 88 (by decide +kernel) (by decide +kernel)⟩
abbrev mX12_isStop : jMI := (yX12_isStop, cX12_isStop, 1, (some .boolean))
set_option maxRecDepth 20000 in
theorem gm_X12_isStop : jmV mX12_isStop 0 := ⟨⟨jt8 6 rfl rfl, jt1 17 rfl rfl, (by decide +kernel), by decide⟩, jt8 5 rfl rfl, jsel (n := 54) 89 (by decide +kernel) (by decide +kernel)⟩
abbrev mX12_isKept : jMI := (yX12_isKept, cX12_isKept, 1, (some .boolean))
set_option maxRecDepth 20000 in
theorem gm_X12_isKept : jmV mX12_isKept 0 := ⟨⟨jt7 190 rfl rfl, jt1 17 rfl rfl, (by decide +kernel), by decide⟩, jt7 189 rfl rfl, jsel (n := 54) 75 (by decide +kernel) (by decide +kernel)⟩
abbrev mX12_isName : jMI := (yX12_isName, cX12_isName, 1, (some .boolean))
set_option maxRecDepth 20000 in
theorem gm_X12_isName : jmV mX12_isName 0 := ⟨⟨jt7 186 rfl rfl, jt1 17 rfl rfl, (by decide +kernel), by decide⟩, jt7 185 rfl rfl, jsel (n := 54) 74 (by decide +kernel) (by decide +kernel)⟩
abbrev mX12_fail : jMI := (yX12_fail, cX12_fail, 3, none)
set_option maxRecDepth 20000 in
theorem gm_X12_fail : jmV mX12_fail 2 := ⟨⟨jt7 145 rfl rfl, jt1 17 rfl rfl, (by decide +kernel), by decide⟩, jt7 144 rfl rfl, jsel (n := 54) 64 (by decide +kernel) (by decide +kernel)⟩
abbrev mX12_wrong : jMI := (yX12_wrong, cX12_wrong, 1, none)
set_option maxRecDepth 20000 in
theorem gm_X12_wrong : jmV mX12_wrong 0 := ⟨⟨jt7 141 rfl rfl, jt1 17 rfl rfl, (by decide +kernel), by decide⟩, jt7 140 rfl rfl, jsel (n := 54) 63 (by decide +kernel) (by decide +kernel)⟩
abbrev mX12_must : jMI := (yX12_must, cX12_must, 2, none)
set_option maxRecDepth 20000 in
theorem gm_X12_must : jmV mX12_must 1 := ⟨⟨jt7 137 rfl rfl, jt1 17 rfl rfl, (by decide +kernel), by decide⟩, jt7 136 rfl rfl, jsel (n := 54) 62 (by decide +kernel) (by decide +kernel)⟩
abbrev mX12_count : jMI := (yX12_count, cX12_count, 4, (some .int))
set_option maxRecDepth 20000 in
theorem gm_X12_count : jmV mX12_count 2 := ⟨⟨jt7 149 rfl rfl, jt1 17 rfl rfl, (by decide +kernel), by decide⟩, jt7 148 rfl rfl, jsel (n := 54) 65 (by decide +kernel) (by decide +kernel)⟩
abbrev mX12_feed : jMI := (yX12_feed, cX12_feed, 6, (some .int))
set_option maxRecDepth 20000 in
theorem gm_X12_feed : jmV mX12_feed 5 := ⟨⟨jt7 79 rfl rfl, jt1 17 rfl rfl, (by decide +kernel), by decide⟩, jt7 77 rfl rfl, jt7 78 rfl rfl⟩
abbrev mX12_lay : jMI := (yX12_lay, cX12_lay, 3, none)
set_option maxRecDepth 20000 in
theorem gm_X12_lay : jmV mX12_lay 1 := ⟨⟨jt7 83 rfl rfl, jt1 17 rfl rfl, (by decide +kernel), by decide⟩, jt7 82 rfl rfl, jsel (n := 54) 55 (by decide +kernel) (by decide +kernel)⟩
abbrev mX12_opens : jMI := (yX12_opens, cX12_opens, 3, (some .boolean))
set_option maxRecDepth 20000 in
theorem gm_X12_opens : jmV mX12_opens 2 := ⟨⟨jt7 95 rfl rfl, jt1 17 rfl rfl, (by decide +kernel), by decide⟩, jt7 94 rfl rfl, jsel (n := 54) 56 (by decide +kernel) (by decide +kernel)⟩
abbrev mX12_isWell : jMI := (yX12_isWell, cX12_isWell, 1, (some .boolean))
set_option maxRecDepth 20000 in
theorem gm_X12_isWell : jmV mX12_isWell 0 := ⟨⟨jt8 18 rfl rfl, jt1 17 rfl rfl, (by decide +kernel), by decide⟩, jt8 17 rfl rfl, jsel (n := 54) 92 (by decide +kernel) (by decide +kernel)⟩
abbrev mX12_fault : jMI := (yX12_fault, cX12_fault, 2, (some .int))
set_option maxRecDepth 20000 in
theorem gm_X12_fault : jmV mX12_fault 1 := ⟨⟨jt7 87 rfl rfl, jt1 17 rfl rfl, (by decide +kernel), by decide⟩, jt7 85 rfl rfl, jt7 86 rfl rfl⟩
abbrev mX12_readRow : jMI := (yX12_readRow, cX12_readRow, 7, none)
set_option maxRecDepth 20000 in
theorem gm_X12_readRow : jmV mX12_readRow 4 := ⟨⟨jt7 165 rfl rfl, jt1 17 rfl rfl, (by decide +kernel), by decide⟩, jt7 164 rfl rfl, jsel (n := 54) 69 (by decide +kernel) (by decide +kernel)⟩
abbrev mX12_readCells : jMI := (yX12_readCells, cX12_readCells, 5, (some .int))
set_option maxRecDepth 20000 in
theorem gm_X12_readCells : jmV mX12_readCells 4 := ⟨⟨jt7 161 rfl rfl, jt1 17 rfl rfl, (by decide +kernel), by decide⟩, jt7 160 rfl rfl, jsel (n := 54) 68 (by decide +kernel) (by decide +kernel)⟩
abbrev mX12_named : jMI := (yX12_named, cX12_named, 4, (some .int))
set_option maxRecDepth 20000 in
theorem gm_X12_named : jmV mX12_named 2 := ⟨⟨jt8 10 rfl rfl, jt1 17 rfl rfl, (by decide +kernel), by decide⟩, jt8 9 rfl rfl, jsel (n := 54) 90 (by decide +kernel) (by decide +kernel)⟩
abbrev mX12_stripsOf : jMI := (yX12_stripsOf, cX12_stripsOf, 4, (some .int))
set_option maxRecDepth 20000 in
theorem gm_X12_stripsOf : jmV mX12_stripsOf 3 := ⟨⟨jt8 14 rfl rfl, jt1 17 rfl rfl, (by decide +kernel), by decide⟩, jt8 13 rfl rfl, jsel (n := 54) 91 (by decide +kernel) (by decide +kernel)⟩
abbrev mX12_readVillage : jMI := (yX12_readVillage, cX12_readVillage, 3, none)
set_option maxRecDepth 20000 in
theorem gm_X12_readVillage : jmV mX12_readVillage 0 := ⟨⟨jt7 182 rfl rfl, jt1 17 rfl rfl, (by decide +kernel), by decide⟩, jt7 181 rfl rfl, jsel (n := 54) 73 (by decide +kernel) (by decide +kernel)⟩
abbrev mX12_plain : jMI := (yX12_plain, cX12_plain, 3, (some .int))
set_option maxRecDepth 20000 in
theorem gm_X12_plain : jmV mX12_plain 1 := ⟨⟨jt7 91 rfl rfl, jt1 17 rfl rfl, (by decide +kernel), by decide⟩, jt7 89 rfl rfl, jt7 90 rfl rfl⟩
abbrev mX12_cells : jMI := (yX12_cells, cX12_cells, 1, (some .int))
set_option maxRecDepth 20000 in
theorem gm_X12_cells : jmV mX12_cells 0 := ⟨⟨jt8 22 rfl rfl, jt1 17 rfl rfl, (by decide +kernel), by decide⟩, jt8 21 rfl rfl, jsel (n := 54) 93 (by decide +kernel) (by decide +kernel)⟩
abbrev mX12_isCell : jMI := (yX12_isCell, cX12_isCell, 2, (some .boolean))
set_option maxRecDepth 20000 in
theorem gm_X12_isCell : jmV mX12_isCell 1 := ⟨⟨jt8 39 rfl rfl, jt1 17 rfl rfl, (by decide +kernel), by decide⟩, jt8 38 rfl rfl, jsel (n := 54) 95 (by decide +kernel) (by decide +kernel)⟩
abbrev mX12_isVillage : jMI := (yX12_isVillage, cX12_isVillage, 2, (some .boolean))
set_option maxRecDepth 20000 in
theorem gm_X12_isVillage : jmV mX12_isVillage 1 := ⟨⟨jt8 47 rfl rfl, jt1 17 rfl rfl, (by decide +kernel), by decide⟩, jt8 46 rfl rfl, jsel (n := 54) 96 (by decide +kernel) (by decide +kernel)⟩
abbrev mX12_strips : jMI := (yX12_strips, cX12_strips, 2, (some .int))
set_option maxRecDepth 20000 in
theorem gm_X12_strips : jmV mX12_strips 1 := ⟨⟨jt8 51 rfl rfl, jt1 17 rfl rfl, (by decide +kernel), by decide⟩, jt8 50 rfl rfl, jsel (n := 54) 97 (by decide +kernel) (by decide +kernel)⟩
abbrev mX12_isStrip : jMI := (yX12_isStrip, cX12_isStrip, 3, (some .boolean))
set_option maxRecDepth 20000 in
theorem gm_X12_isStrip : jmV mX12_isStrip 2 := ⟨⟨jt8 59 rfl rfl, jt1 17 rfl rfl, (by decide +kernel), by decide⟩, jt8 58 rfl rfl, jsel (n := 54) 98 (by decide +kernel) (by decide +kernel)⟩
abbrev mX12_isSet : jMI := (yX12_isSet, cX12_isSet, 2, (some .boolean))
set_option maxRecDepth 20000 in
theorem gm_X12_isSet : jmV mX12_isSet 1 := ⟨⟨jt8 122 rfl rfl, jt1 17 rfl rfl, (by decide +kernel), by decide⟩, jt8 121 rfl rfl, jsel (n := 54) 105 (by decide +kernel) (by decide +kernel)⟩
abbrev mX12_stripOf : jMI := (yX12_stripOf, cX12_stripOf, 7, (some .int))
set_option maxRecDepth 20000 in
theorem gm_X12_stripOf : jmV mX12_stripOf 2 := ⟨⟨jt8 68 rfl rfl, jt1 17 rfl rfl, (by decide +kernel), by decide⟩, jt8 67 rfl rfl, jsel (n := 54) 99 (by decide +kernel) (by decide +kernel)⟩
abbrev mX12_many : jMI := (yX12_many, cX12_many, 2, (some .int))
set_option maxRecDepth 20000 in
theorem gm_X12_many : jmV mX12_many 1 := ⟨⟨jt8 26 rfl rfl, jt1 17 rfl rfl, (by decide +kernel), by decide⟩, jt8 24 rfl rfl, jt8 25 rfl rfl⟩
abbrev mX12_cell : jMI := (yX12_cell, cX12_cell, 3, (some .int))
set_option maxRecDepth 20000 in
theorem gm_X12_cell : jmV mX12_cell 2 := ⟨⟨jt8 35 rfl rfl, jt1 17 rfl rfl, (by decide +kernel), by decide⟩, jt8 33 rfl rfl, jt8 34 rfl rfl⟩
abbrev mX12_village : jMI := (yX12_village, cX12_village, 3, (some .int))
set_option maxRecDepth 20000 in
theorem gm_X12_village : jmV mX12_village 2 := ⟨⟨jt8 43 rfl rfl, jt1 17 rfl rfl, (by decide +kernel), by decide⟩, jt8 41 rfl rfl, jt8 42 rfl rfl⟩
abbrev mX12_promised : jMI := (yX12_promised, cX12_promised, 3, (some .int))
set_option maxRecDepth 20000 in
theorem gm_X12_promised : jmV mX12_promised 2 := ⟨⟨jt8 55 rfl rfl, jt1 17 rfl rfl, (by decide +kernel), by decide⟩, jt8 53 rfl rfl, jt8 54 rfl rfl⟩
abbrev mX12_strip : jMI := (yX12_strip, cX12_strip, 3, (some .int))
set_option maxRecDepth 20000 in
theorem gm_X12_strip : jmV mX12_strip 2 := ⟨⟨jt8 63 rfl rfl, jt1 17 rfl rfl, (by decide +kernel), by decide⟩, jt8 61 rfl rfl, jt8 62 rfl rfl⟩
abbrev mX12_height : jMI := (yX12_height, cX12_height, 2, (some .int))
set_option maxRecDepth 20000 in
theorem gm_X12_height : jmV mX12_height 1 := ⟨⟨jt8 72 rfl rfl, jt1 17 rfl rfl, (by decide +kernel), by decide⟩, jt8 70 rfl rfl, jt8 71 rfl rfl⟩
abbrev mX12_build : jMI := (yX12_build, cX12_build, 3, (some .boolean))
set_option maxRecDepth 20000 in
theorem gm_X12_build : jmV mX12_build 2 := ⟨⟨jt8 76 rfl rfl, jt1 17 rfl rfl, (by decide +kernel), by decide⟩, jt8 74 rfl rfl, jt8 75 rfl rfl⟩
abbrev mX12_wrongRow : jMI := (yX12_wrongRow, cX12_wrongRow, 4, (some .int))
set_option maxRecDepth 20000 in
theorem gm_X12_wrongRow : jmV mX12_wrongRow 2 := ⟨⟨jt8 89 rfl rfl, jt1 17 rfl rfl, (by decide +kernel), by decide⟩, jt8 88 rfl rfl, jsel (n := 54) 101 (by decide +kernel) (by decide +kernel)⟩
abbrev mX12_buildAll : jMI := (yX12_buildAll, cX12_buildAll, 4, (some .boolean))
set_option maxRecDepth 20000 in
theorem gm_X12_buildAll : jmV mX12_buildAll 1 := ⟨⟨jt8 81 rfl rfl, jt1 17 rfl rfl, (by decide +kernel), by decide⟩, jt8 79 rfl rfl, jt8 80 rfl rfl⟩
abbrev mX12_seenFrom : jMI := (yX12_seenFrom, cX12_seenFrom, 5, (some .int))
set_option maxRecDepth 20000 in
theorem gm_X12_seenFrom : jmV mX12_seenFrom 2 := ⟨⟨jt8 101 rfl rfl, jt1 17 rfl rfl, (by decide +kernel), by decide⟩, jt8 100 rfl rfl, jsel (n := 54) 103 (by decide +kernel) (by decide +kernel)⟩
abbrev mX12_seen : jMI := (yX12_seen, cX12_seen, 3, (some .int))
set_option maxRecDepth 20000 in
theorem gm_X12_seen : jmV mX12_seen 2 := ⟨⟨jt8 97 rfl rfl, jt1 17 rfl rfl, (by decide +kernel), by decide⟩, jt8 95 rfl rfl, jt8 96 rfl rfl⟩
abbrev mX12_otherwise : jMI := (yX12_otherwise, cX12_otherwise, 4, (some .int))
set_option maxRecDepth 20000 in
theorem gm_X12_otherwise : jmV mX12_otherwise 1 := ⟨⟨jt8 106 rfl rfl, jt1 17 rfl rfl, (by decide +kernel), by decide⟩, jt8 104 rfl rfl, jt8 105 rfl rfl⟩
abbrev mX12_stoneNow : jMI := (yX12_stoneNow, cX12_stoneNow, 3, (some .int))
set_option maxRecDepth 20000 in
theorem gm_X12_stoneNow : jmV mX12_stoneNow 0 := ⟨⟨jt8 114 rfl rfl, jt1 17 rfl rfl, (by decide +kernel), by decide⟩, jt8 113 rfl rfl, jsel (n := 54) 104 (by decide +kernel) (by decide +kernel)⟩
abbrev mX12_stone : jMI := (yX12_stone, cX12_stone, 1, (some .int))
set_option maxRecDepth 20000 in
theorem gm_X12_stone : jmV mX12_stone 0 := ⟨⟨jt8 110 rfl rfl, jt1 17 rfl rfl, (by decide +kernel), by decide⟩, jt8 108 rfl rfl, jt8 109 rfl rfl⟩
abbrev mX12_ask : jMI := (yX12_ask, cX12_ask, 4, none)
set_option maxRecDepth 20000 in
theorem gm_X12_ask : jmV mX12_ask 1 := ⟨⟨jt8 126 rfl rfl, jt1 17 rfl rfl, (by decide +kernel), by decide⟩, jt8 125 rfl rfl, jsel (n := 54) 106 (by decide +kernel) (by decide +kernel)⟩
abbrev mX12_tellCaps : jMI := (yX12_tellCaps, cX12_tellCaps, 3, none)
set_option maxRecDepth 20000 in
theorem gm_X12_tellCaps : jmV mX12_tellCaps 0 := ⟨⟨jt8 130 rfl rfl, jt1 17 rfl rfl, (by decide +kernel), by decide⟩, jt8 129 rfl rfl, jsel (n := 54) 107 (by decide +kernel) (by decide +kernel)⟩
abbrev mX12_ableIn : jMI := (yX12_ableIn, cX12_ableIn, 5, (some .int))
set_option maxRecDepth 20000 in
theorem gm_X12_ableIn : jmV mX12_ableIn 2 := ⟨⟨jt8 143 rfl rfl, jt1 17 rfl rfl, (by decide +kernel), by decide⟩, jt8 142 rfl rfl, jsel (n := 54) 109 (by decide +kernel) (by decide +kernel)⟩
abbrev mX12_canKeep : jMI := (yX12_canKeep, cX12_canKeep, 3, (some .boolean))
set_option maxRecDepth 20000 in
theorem gm_X12_canKeep : jmV mX12_canKeep 0 := ⟨⟨jt8 139 rfl rfl, jt1 17 rfl rfl, (by decide +kernel), by decide⟩, jt8 138 rfl rfl, jsel (n := 54) 108 (by decide +kernel) (by decide +kernel)⟩
abbrev mX12_cap : jMI := (yX12_cap, cX12_cap, 3, (some .int))
set_option maxRecDepth 20000 in
theorem gm_X12_cap : jmV mX12_cap 2 := ⟨⟨jt8 118 rfl rfl, jt1 17 rfl rfl, (by decide +kernel), by decide⟩, jt8 116 rfl rfl, jt8 117 rfl rfl⟩
abbrev mX12_can : jMI := (yX12_can, cX12_can, 2, (some .int))
set_option maxRecDepth 20000 in
theorem gm_X12_can : jmV mX12_can 1 := ⟨⟨jt8 135 rfl rfl, jt1 17 rfl rfl, (by decide +kernel), by decide⟩, jt8 133 rfl rfl, jt8 134 rfl rfl⟩
abbrev mX12_barred : jMI := (yX12_barred, cX12_barred, 3, (some .int))
set_option maxRecDepth 20000 in
theorem gm_X12_barred : jmV mX12_barred 2 := ⟨⟨jt8 147 rfl rfl, jt1 17 rfl rfl, (by decide +kernel), by decide⟩, jt8 145 rfl rfl, jt8 146 rfl rfl⟩
abbrev mX12_largest : jMI := (yX12_largest, cX12_largest, 3, (some .int))
set_option maxRecDepth 20000 in
theorem gm_X12_largest : jmV mX12_largest 1 := ⟨⟨jt8 151 rfl rfl, jt1 17 rfl rfl, (by decide +kernel), by decide⟩, jt8 149 rfl rfl, jt8 150 rfl rfl⟩
abbrev mX12_has : jMI := (yX12_has, cX12_has, 3, (some .boolean))
set_option maxRecDepth 20000 in
theorem gm_X12_has : jmV mX12_has 2 := ⟨⟨jt8 167 rfl rfl, jt1 17 rfl rfl, (by decide +kernel), by decide⟩, jt8 166 rfl rfl, jsel (n := 54) 112 (by decide +kernel) (by decide +kernel)⟩
abbrev mX12_findCovers : jMI := (yX12_findCovers, cX12_findCovers, 6, none)
set_option maxRecDepth 20000 in
theorem gm_X12_findCovers : jmV mX12_findCovers 0 := ⟨⟨jt8 163 rfl rfl, jt1 17 rfl rfl, (by decide +kernel), by decide⟩, jt8 162 rfl rfl, jsel (n := 54) 111 (by decide +kernel) (by decide +kernel)⟩
abbrev mX12_bits : jMI := (yX12_bits, cX12_bits, 3, (some .int))
set_option maxRecDepth 20000 in
theorem gm_X12_bits : jmS mX12_bits 1 := ⟨⟨jt8 182 rfl rfl, jt1 17 rfl rfl, (by decide +kernel), by decide⟩, jt8 181 rfl rfl⟩
abbrev mX12_cover : jMI := (yX12_cover, cX12_cover, 7, none)
set_option maxRecDepth 20000 in
theorem gm_X12_cover : jmV mX12_cover 3 := ⟨⟨jt8 179 rfl rfl, jt1 17 rfl rfl, (by decide +kernel), by decide⟩, jt8 178 rfl rfl, jsel (n := 54) 115 (by decide +kernel) (by decide +kernel)⟩
abbrev mX12_leastCover : jMI := (yX12_leastCover, cX12_leastCover, 2, (some .int))
set_option maxRecDepth 20000 in
theorem gm_X12_leastCover : jmV mX12_leastCover 1 := ⟨⟨jt8 175 rfl rfl, jt1 17 rfl rfl, (by decide +kernel), by decide⟩, jt8 174 rfl rfl, jsel (n := 54) 114 (by decide +kernel) (by decide +kernel)⟩
abbrev mX12_allCells : jMI := (yX12_allCells, cX12_allCells, 1, (some .int))
set_option maxRecDepth 20000 in
theorem gm_X12_allCells : jmV mX12_allCells 0 := ⟨⟨jt8 171 rfl rfl, jt1 17 rfl rfl, (by decide +kernel), by decide⟩, jt8 170 rfl rfl, jsel (n := 54) 113 (by decide +kernel) (by decide +kernel)⟩
abbrev mX12_cheapestCost : jMI := (yX12_cheapestCost, cX12_cheapestCost, 2, (some .int))
set_option maxRecDepth 20000 in
theorem gm_X12_cheapestCost : jmV mX12_cheapestCost 0 := ⟨⟨jt8 159 rfl rfl, jt1 17 rfl rfl, (by decide +kernel), by decide⟩, jt8 158 rfl rfl, jsel (n := 54) 110 (by decide +kernel) (by decide +kernel)⟩
abbrev mX12_cheapest : jMI := (yX12_cheapest, cX12_cheapest, 7, (some .int))
set_option maxRecDepth 20000 in
theorem gm_X12_cheapest : jmV mX12_cheapest 1 := ⟨⟨jt8 155 rfl rfl, jt1 17 rfl rfl, (by decide +kernel), by decide⟩, jt8 153 rfl rfl, jt8 154 rfl rfl⟩
abbrev mX12_least : jMI := (yX12_least, cX12_least, 4, (some .int))
set_option maxRecDepth 20000 in
theorem gm_X12_least : jmV mX12_least 1 := ⟨⟨jt8 186 rfl rfl, jt1 17 rfl rfl, (by decide +kernel), by decide⟩, jt8 184 rfl rfl, jt8 185 rfl rfl⟩
abbrev mX12_courts : jMI := (yX12_courts, cX12_courts, 3, (some .int))
set_option maxRecDepth 20000 in
theorem gm_X12_courts : jmV mX12_courts 1 := ⟨⟨jt8 197 rfl rfl, jt1 17 rfl rfl, (by decide +kernel), by decide⟩, jt8 195 rfl rfl, jt8 196 rfl rfl⟩
abbrev mX12_townsWithout : jMI := (yX12_townsWithout, cX12_townsWithout, 8, (some .long))
set_option maxRecDepth 20000 in
theorem gm_X12_townsWithout : jmV mX12_townsWithout 2 := ⟨⟨jt8 205 rfl rfl, jt1 17 rfl rfl, (by decide +kernel), by decide⟩, jt8 204 rfl rfl, jsel (n := 54) 117 (by decide +kernel) (by decide +kernel)⟩
abbrev mX12_towns : jMI := (yX12_towns, cX12_towns, 6, (some .int))
set_option maxRecDepth 20000 in
theorem gm_X12_towns : jmV mX12_towns 1 := ⟨⟨jt8 201 rfl rfl, jt1 17 rfl rfl, (by decide +kernel), by decide⟩, jt8 199 rfl rfl, jt8 200 rfl rfl⟩
abbrev mX12_sure : jMI := (yX12_sure, cX12_sure, 5, (some .int))
set_option maxRecDepth 20000 in
theorem gm_X12_sure : jmV mX12_sure 3 := ⟨⟨jt8 210 rfl rfl, jt1 17 rfl rfl, (by decide +kernel), by decide⟩, jt8 208 rfl rfl, jt8 209 rfl rfl⟩
abbrev mX12_struck : jMI := (yX12_struck, cX12_struck, 4, (some .int))
set_option maxRecDepth 20000 in
theorem gm_X12_struck : jmV mX12_struck 0 := ⟨⟨jt8 214 rfl rfl, jt1 17 rfl rfl, (by decide +kernel), by decide⟩, jt8 212 rfl rfl, jt8 213 rfl rfl⟩
abbrev mX12_down : jMI := (yX12_down, cX12_down, 7, (some .int))
set_option maxRecDepth 20000 in
theorem gm_X12_down : jmV mX12_down 1 := ⟨⟨jt8 218 rfl rfl, jt1 17 rfl rfl, (by decide +kernel), by decide⟩, jt8 216 rfl rfl, jt8 217 rfl rfl⟩
abbrev mX12_askAsSeen : jMI := (yX12_askAsSeen, cX12_askAsSeen, 3, none)
set_option maxRecDepth 20000 in
theorem gm_X12_askAsSeen : jmV mX12_askAsSeen 0 := ⟨⟨jt8 226 rfl rfl, jt1 17 rfl rfl, (by decide +kernel), by decide⟩, jt8 225 rfl rfl, jsel (n := 54) 118 (by decide +kernel) (by decide +kernel)⟩
abbrev mX12_instead : jMI := (yX12_instead, cX12_instead, 2, (some .int))
set_option maxRecDepth 20000 in
theorem gm_X12_instead : jmV mX12_instead 1 := ⟨⟨jt8 222 rfl rfl, jt1 17 rfl rfl, (by decide +kernel), by decide⟩, jt8 220 rfl rfl, jt8 221 rfl rfl⟩
abbrev mX12_seenIn : jMI := (yX12_seenIn, cX12_seenIn, 7, (some .int))
set_option maxRecDepth 20000 in
theorem gm_X12_seenIn : jmV mX12_seenIn 4 := ⟨⟨jt8 234 rfl rfl, jt1 17 rfl rfl, (by decide +kernel), by decide⟩, jt8 233 rfl rfl, jsel (n := 54) 119 (by decide +kernel) (by decide +kernel)⟩
abbrev mX12_apart : jMI := (yX12_apart, cX12_apart, 7, (some .int))
set_option maxRecDepth 20000 in
theorem gm_X12_apart : jmV mX12_apart 3 := ⟨⟨jt8 230 rfl rfl, jt1 17 rfl rfl, (by decide +kernel), by decide⟩, jt8 228 rfl rfl, jt8 229 rfl rfl⟩
abbrev mX12_parts : jMI := (yX12_parts, cX12_parts, 6, (some .boolean))
set_option maxRecDepth 20000 in
theorem gm_X12_parts : jmV mX12_parts 4 := ⟨⟨jt9 7 rfl rfl, jt1 17 rfl rfl, (by decide +kernel), by decide⟩, jt9 6 rfl rfl, jsel (n := 54) 121 (by decide +kernel) (by decide +kernel)⟩
abbrev mX12_watchAll : jMI := (yX12_watchAll, cX12_watchAll, 8, (some .boolean))
set_option maxRecDepth 20000 in
theorem gm_X12_watchAll : jmV mX12_watchAll 3 := ⟨⟨jt9 3 rfl rfl, jt1 17 rfl rfl, (by decide +kernel), by decide⟩, jt9 2 rfl rfl, jsel (n := 54) 120 (by decide +kernel) (by decide +kernel)⟩
abbrev mX12_watchers : jMI := (yX12_watchers, cX12_watchers, 6, (some .int))
set_option maxRecDepth 20000 in
theorem gm_X12_watchers : jmV mX12_watchers 2 := ⟨⟨jt8 238 rfl rfl, jt1 17 rfl rfl, (by decide +kernel), by decide⟩, jt8 236 rfl rfl, jt8 237 rfl rfl⟩
abbrev mX12_tenth : jMI := (yX12_tenth, cX12_tenth, 8, (some .int))
set_option maxRecDepth 20000 in
theorem gm_X12_tenth : jmV mX12_tenth 2 := ⟨⟨jt9 11 rfl rfl, jt1 17 rfl rfl, (by decide +kernel), by decide⟩, jt9 9 rfl rfl, jt9 10 rfl rfl⟩
abbrev mX12_isAsSeen : jMI := (yX12_isAsSeen, cX12_isAsSeen, 5, (some .boolean))
set_option maxRecDepth 20000 in
theorem gm_X12_isAsSeen : jmV mX12_isAsSeen 1 := ⟨⟨jt9 20 rfl rfl, jt1 17 rfl rfl, (by decide +kernel), by decide⟩, jt9 19 rfl rfl, jsel (n := 54) 122 (by decide +kernel) (by decide +kernel)⟩
abbrev mX12_order : jMI := (yX12_order, cX12_order, 8, (some .int))
set_option maxRecDepth 20000 in
theorem gm_X12_order : jmV mX12_order 1 := ⟨⟨jt9 16 rfl rfl, jt1 17 rfl rfl, (by decide +kernel), by decide⟩, jt9 14 rfl rfl, jt9 15 rfl rfl⟩
abbrev mX12_orderAt : jMI := (yX12_orderAt, cX12_orderAt, 2, (some .int))
set_option maxRecDepth 20000 in
theorem gm_X12_orderAt : jmV mX12_orderAt 1 := ⟨⟨jt9 24 rfl rfl, jt1 17 rfl rfl, (by decide +kernel), by decide⟩, jt9 22 rfl rfl, jt9 23 rfl rfl⟩
abbrev mX12_like : jMI := (yX12_like, cX12_like, 6, (some .int))
set_option maxRecDepth 20000 in
theorem gm_X12_like : jmV mX12_like 2 := ⟨⟨jt9 28 rfl rfl, jt1 17 rfl rfl, (by decide +kernel), by decide⟩, jt9 26 rfl rfl, jt9 27 rfl rfl⟩
abbrev mX12_highest : jMI := (yX12_highest, cX12_highest, 4, (some .int))
set_option maxRecDepth 20000 in
theorem gm_X12_highest : jmV mX12_highest 0 := ⟨⟨jt9 32 rfl rfl, jt1 17 rfl rfl, (by decide +kernel), by decide⟩, jt9 30 rfl rfl, jt9 31 rfl rfl⟩
abbrev mX12_readSign : jMI := (yX12_readSign, cX12_readSign, 4, none)
set_option maxRecDepth 20000 in
theorem gm_X12_readSign : jmV mX12_readSign 2 := ⟨⟨jt9 52 rfl rfl, jt1 17 rfl rfl, (by decide +kernel), by decide⟩, jt9 51 rfl rfl, jsel (n := 54) 126 (by decide +kernel) (by decide +kernel)⟩
abbrev mX12_readName : jMI := (yX12_readName, cX12_readName, 2, (some .int))
set_option maxRecDepth 20000 in
theorem gm_X12_readName : jmV mX12_readName 0 := ⟨⟨jt9 56 rfl rfl, jt1 17 rfl rfl, (by decide +kernel), by decide⟩, jt9 55 rfl rfl, jsel (n := 54) 127 (by decide +kernel) (by decide +kernel)⟩
abbrev mX12_readTest : jMI := (yX12_readTest, cX12_readTest, 3, none)
set_option maxRecDepth 20000 in
theorem gm_X12_readTest : jmV mX12_readTest 1 := ⟨⟨jt9 48 rfl rfl, jt1 17 rfl rfl, (by decide +kernel), by decide⟩, jt9 47 rfl rfl, jsel (n := 54) 125 (by decide +kernel) (by decide +kernel)⟩
abbrev mX12_readRest : jMI := (yX12_readRest, cX12_readRest, 3, none)
set_option maxRecDepth 20000 in
theorem gm_X12_readRest : jmV mX12_readRest 1 := ⟨⟨jt9 44 rfl rfl, jt1 17 rfl rfl, (by decide +kernel), by decide⟩, jt9 43 rfl rfl, jsel (n := 54) 124 (by decide +kernel) (by decide +kernel)⟩
abbrev mX12_readStep : jMI := (yX12_readStep, cX12_readStep, 5, none)
set_option maxRecDepth 20000 in
theorem gm_X12_readStep : jmV mX12_readStep 1 := ⟨⟨jt9 40 rfl rfl, jt1 17 rfl rfl, (by decide +kernel), by decide⟩, jt9 39 rfl rfl, jsel (n := 54) 123 (by decide +kernel) (by decide +kernel)⟩
abbrev mX12_orders : jMI := (yX12_orders, cX12_orders, 3, (some .int))
set_option maxRecDepth 20000 in
theorem gm_X12_orders : jmV mX12_orders 1 := ⟨⟨jt9 36 rfl rfl, jt1 17 rfl rfl, (by decide +kernel), by decide⟩, jt9 34 rfl rfl, jt9 35 rfl rfl⟩
abbrev mX12_draw : jMI := (yX12_draw, cX12_draw, 2, (some .int))
set_option maxRecDepth 20000 in
theorem gm_X12_draw : jmV mX12_draw 1 := ⟨⟨jt9 85 rfl rfl, jt1 17 rfl rfl, (by decide +kernel), by decide⟩, jt9 84 rfl rfl, jsel (n := 54) 133 (by decide +kernel) (by decide +kernel)⟩
abbrev mX12_change : jMI := (yX12_change, cX12_change, 4, none)
set_option maxRecDepth 20000 in
theorem gm_X12_change : jmV mX12_change 2 := ⟨⟨jt9 81 rfl rfl, jt1 17 rfl rfl, (by decide +kernel), by decide⟩, jt9 80 rfl rfl, jsel (n := 54) 132 (by decide +kernel) (by decide +kernel)⟩
abbrev mX12_compares : jMI := (yX12_compares, cX12_compares, 3, (some .boolean))
set_option maxRecDepth 20000 in
theorem gm_X12_compares : jmV mX12_compares 2 := ⟨⟨jt9 94 rfl rfl, jt1 17 rfl rfl, (by decide +kernel), by decide⟩, jt9 93 rfl rfl, jsel (n := 54) 135 (by decide +kernel) (by decide +kernel)⟩
abbrev mX12_seesSame : jMI := (yX12_seesSame, cX12_seesSame, 3, (some .boolean))
set_option maxRecDepth 20000 in
theorem gm_X12_seesSame : jmV mX12_seesSame 1 := ⟨⟨jt9 98 rfl rfl, jt1 17 rfl rfl, (by decide +kernel), by decide⟩, jt9 97 rfl rfl, jsel (n := 54) 136 (by decide +kernel) (by decide +kernel)⟩
abbrev mX12_cellOf : jMI := (yX12_cellOf, cX12_cellOf, 2, (some .int))
set_option maxRecDepth 20000 in
theorem gm_X12_cellOf : jmV mX12_cellOf 1 := ⟨⟨jt9 77 rfl rfl, jt1 17 rfl rfl, (by decide +kernel), by decide⟩, jt9 76 rfl rfl, jsel (n := 54) 131 (by decide +kernel) (by decide +kernel)⟩
abbrev mX12_isSo : jMI := (yX12_isSo, cX12_isSo, 3, (some .boolean))
set_option maxRecDepth 20000 in
theorem gm_X12_isSo : jmV mX12_isSo 1 := ⟨⟨jt9 90 rfl rfl, jt1 17 rfl rfl, (by decide +kernel), by decide⟩, jt9 89 rfl rfl, jsel (n := 54) 134 (by decide +kernel) (by decide +kernel)⟩
abbrev mX12_doOne : jMI := (yX12_doOne, cX12_doOne, 5, none)
set_option maxRecDepth 20000 in
theorem gm_X12_doOne : jmV mX12_doOne 1 := ⟨⟨jt9 73 rfl rfl, jt1 17 rfl rfl, (by decide +kernel), by decide⟩, jt9 72 rfl rfl, jsel (n := 54) 130 (by decide +kernel) (by decide +kernel)⟩
abbrev mX12_doAll : jMI := (yX12_doAll, cX12_doAll, 4, none)
set_option maxRecDepth 20000 in
theorem gm_X12_doAll : jmV mX12_doAll 2 := ⟨⟨jt9 69 rfl rfl, jt1 17 rfl rfl, (by decide +kernel), by decide⟩, jt9 68 rfl rfl, jsel (n := 54) 129 (by decide +kernel) (by decide +kernel)⟩
abbrev mX12_run : jMI := (yX12_run, cX12_run, 2, none)
set_option maxRecDepth 20000 in
theorem gm_X12_run : jmV mX12_run 1 := ⟨⟨jt9 65 rfl rfl, jt1 17 rfl rfl, (by decide +kernel), by decide⟩, jt9 64 rfl rfl, jsel (n := 54) 128 (by decide +kernel) (by decide +kernel)⟩
abbrev mX12_built : jMI := (yX12_built, cX12_built, 2, (some .int))
set_option maxRecDepth 20000 in
theorem gm_X12_built : jmV mX12_built 1 := ⟨⟨jt9 60 rfl rfl, jt1 17 rfl rfl, (by decide +kernel), by decide⟩, jt9 58 rfl rfl, jt9 59 rfl rfl⟩
abbrev mX12_building : jMI := (yX12_building, cX12_building, 2, (some .int))
set_option maxRecDepth 20000 in
theorem gm_X12_building : jmV mX12_building 1 := ⟨⟨jt9 102 rfl rfl, jt1 17 rfl rfl, (by decide +kernel), by decide⟩, jt9 100 rfl rfl, jt9 101 rfl rfl⟩
abbrev mX12_tally : jMI := (yX12_tally, cX12_tally, 7, (some .int))
set_option maxRecDepth 20000 in
theorem gm_X12_tally : jmV mX12_tally 2 := ⟨⟨jt9 106 rfl rfl, jt1 17 rfl rfl, (by decide +kernel), by decide⟩, jt9 104 rfl rfl, jt9 105 rfl rfl⟩
abbrev mX12_copy : jMI := (yX12_copy, cX12_copy, 4, none)
set_option maxRecDepth 20000 in
theorem gm_X12_copy : jmV mX12_copy 2 := ⟨⟨jt9 115 rfl rfl, jt1 17 rfl rfl, (by decide +kernel), by decide⟩, jt9 114 rfl rfl, jsel (n := 54) 137 (by decide +kernel) (by decide +kernel)⟩
abbrev mX12_mark : jMI := (yX12_mark, cX12_mark, 1, (some .int))
set_option maxRecDepth 20000 in
theorem gm_X12_mark : jmV mX12_mark 0 := ⟨⟨jt9 111 rfl rfl, jt1 17 rfl rfl, (by decide +kernel), by decide⟩, jt9 109 rfl rfl, jt9 110 rfl rfl⟩
abbrev mX12_back : jMI := (yX12_back, cX12_back, 1, (some .int))
set_option maxRecDepth 20000 in
theorem gm_X12_back : jmV mX12_back 0 := ⟨⟨jt9 119 rfl rfl, jt1 17 rfl rfl, (by decide +kernel), by decide⟩, jt9 117 rfl rfl, jt9 118 rfl rfl⟩
abbrev mJ6_numberOfLeadingZeros_0f7a4 : jMI := (yJ6_numberOfLeadingZeros_0f7a4, cJ6_numberOfLeadingZeros_0f7a4, 2, (some .int))
set_option maxRecDepth 20000 in
theorem gm_J6_numberOfLeadingZeros_0f7a4 : jmS mJ6_numberOfLeadingZeros_0f7a4 1 := ⟨⟨jt5 128 rfl rfl, jt1 21 rfl rfl, (by decide +kernel), by decide⟩, jt5 127 rfl rfl⟩
abbrev mJ6_numberOfTrailingZeros_0f7a4 : jMI := (yJ6_numberOfTrailingZeros_0f7a4, cJ6_numberOfTrailingZeros_0f7a4, 2, (some .int))
set_option maxRecDepth 20000 in
theorem gm_J6_numberOfTrailingZeros_0f7a4 : jmS mJ6_numberOfTrailingZeros_0f7a4 1 := ⟨⟨jt5 80 rfl rfl, jt1 21 rfl rfl, (by decide +kernel), by decide⟩, jt5 79 rfl rfl⟩
abbrev mJ6_bitCount_0f7a4 : jMI := (yJ6_bitCount_0f7a4, cJ6_bitCount_0f7a4, 1, (some .int))
set_option maxRecDepth 20000 in
theorem gm_J6_bitCount_0f7a4 : jmS mJ6_bitCount_0f7a4 1 := ⟨⟨jt5 57 rfl rfl, jt1 21 rfl rfl, (by decide +kernel), by decide⟩, jt5 56 rfl rfl⟩
abbrev mJ9_abs_067f4 : jMI := (yJ9_abs_067f4, cJ9_abs_067f4, 2, (some .long))
set_option maxRecDepth 20000 in
theorem gm_J9_abs_067f4 : jmS mJ9_abs_067f4 1 := ⟨⟨jt8 193 rfl rfl, jt1 20 rfl rfl, (by decide +kernel), by decide⟩, jt8 192 rfl rfl⟩
abbrev mJ9_max_7cf53 : jMI := (yJ9_max_7cf53, cJ9_max_7cf53, 2, (some .int))
set_option maxRecDepth 20000 in
theorem gm_J9_max_7cf53 : jmS mJ9_max_7cf53 2 := ⟨⟨jt4 182 rfl rfl, jt1 20 rfl rfl, (by decide +kernel), by decide⟩, jt4 181 rfl rfl⟩
abbrev mJ9_max_f86c9 : jMI := (yJ9_max_f86c9, cJ9_max_f86c9, 4, (some .long))
set_option maxRecDepth 20000 in
theorem gm_J9_max_f86c9 : jmS mJ9_max_f86c9 2 := ⟨⟨jt5 85 rfl rfl, jt1 20 rfl rfl, (by decide +kernel), by decide⟩, jt5 84 rfl rfl⟩
abbrev mJ9_min_7cf53 : jMI := (yJ9_min_7cf53, cJ9_min_7cf53, 2, (some .int))
set_option maxRecDepth 20000 in
theorem gm_J9_min_7cf53 : jmS mJ9_min_7cf53 2 := ⟨⟨jt3 160 rfl rfl, jt1 20 rfl rfl, (by decide +kernel), by decide⟩, jt3 159 rfl rfl⟩
abbrev mJ0_length_8abf5 : jMI := (yJ0_length_8abf5, cJ0_length_8abf5, 1, (some .int))
set_option maxRecDepth 20000 in
theorem gm_J0_length_8abf5 : jmV mJ0_length_8abf5 0 := ⟨⟨jt1 131 rfl rfl, jt1 5 rfl rfl, (by decide +kernel), by decide⟩, jt1 129 rfl rfl, jt1 130 rfl rfl⟩
abbrev mJ0_charAt_5068e : jMI := (yJ0_charAt_5068e, cJ0_charAt_5068e, 2, (some .char))
set_option maxRecDepth 20000 in
theorem gm_J0_charAt_5068e : jmV mJ0_charAt_5068e 1 := ⟨⟨jt1 141 rfl rfl, jt1 5 rfl rfl, (by decide +kernel), by decide⟩, jt1 139 rfl rfl, jt1 140 rfl rfl⟩
abbrev mJ0_coder_7d493 : jMI := (yJ0_coder_7d493, cJ0_coder_7d493, 1, (some .byte))
set_option maxRecDepth 20000 in
theorem gm_J0_coder_7d493 : jmV mJ0_coder_7d493 0 := ⟨⟨jt1 135 rfl rfl, jt1 5 rfl rfl, (by decide +kernel), by decide⟩, jt1 133 rfl rfl, jt1 134 rfl rfl⟩
abbrev mJ0_isLatin1_aae02 : jMI := (yJ0_isLatin1_aae02, cJ0_isLatin1_aae02, 1, (some .boolean))
set_option maxRecDepth 20000 in
theorem gm_J0_isLatin1_aae02 : jmV mJ0_isLatin1_aae02 0 := ⟨⟨jt1 145 rfl rfl, jt1 5 rfl rfl, (by decide +kernel), by decide⟩, jt1 143 rfl rfl, jt1 144 rfl rfl⟩
abbrev mJ0_checkIndex_df160 : jMI := (yJ0_checkIndex_df160, cJ0_checkIndex_df160, 2, none)
set_option maxRecDepth 20000 in
theorem gm_J0_checkIndex_df160 : jmS mJ0_checkIndex_df160 2 := ⟨⟨jt1 151 rfl rfl, jt1 5 rfl rfl, (by decide +kernel), by decide⟩, jt1 150 rfl rfl⟩
abbrev mJ1_charAt_3b067 : jMI := (yJ1_charAt_3b067, cJ1_charAt_3b067, 2, (some .char))
set_option maxRecDepth 20000 in
theorem gm_J1_charAt_3b067 : jmS mJ1_charAt_3b067 2 := ⟨⟨jt1 148 rfl rfl, jt1 6 rfl rfl, (by decide +kernel), by decide⟩, jt1 147 rfl rfl⟩
abbrev mJ2_getChar_3b067 : jMI := (yJ2_getChar_3b067, cJ2_getChar_3b067, 2, (some .char))
set_option maxRecDepth 20000 in
theorem gm_J2_getChar_3b067 : jmS mJ2_getChar_3b067 2 := ⟨⟨jt1 169 rfl rfl, jt1 8 rfl rfl, (by decide +kernel), by decide⟩, jt1 168 rfl rfl⟩
abbrev mJ2_length_9d52b : jMI := (yJ2_length_9d52b, cJ2_length_9d52b, 1, (some .int))
set_option maxRecDepth 20000 in
theorem gm_J2_length_9d52b : jmS mJ2_length_9d52b 1 := ⟨⟨jt1 165 rfl rfl, jt1 8 rfl rfl, (by decide +kernel), by decide⟩, jt1 164 rfl rfl⟩
abbrev mJ2_charAt_3b067 : jMI := (yJ2_charAt_3b067, cJ2_charAt_3b067, 2, (some .char))
set_option maxRecDepth 20000 in
theorem gm_J2_charAt_3b067 : jmS mJ2_charAt_3b067 2 := ⟨⟨jt1 159 rfl rfl, jt1 8 rfl rfl, (by decide +kernel), by decide⟩, jt1 158 rfl rfl⟩
abbrev mJ2_checkIndex_2214a : jMI := (yJ2_checkIndex_2214a, cJ2_checkIndex_2214a, 2, none)
set_option maxRecDepth 20000 in
theorem gm_J2_checkIndex_2214a : jmS mJ2_checkIndex_2214a 2 := ⟨⟨jt1 162 rfl rfl, jt1 8 rfl rfl, (by decide +kernel), by decide⟩, jt1 161 rfl rfl⟩
abbrev mJ7_fill_d0a16 : jMI := (yJ7_fill_d0a16, cJ7_fill_d0a16, 5, none)
set_option maxRecDepth 20000 in
theorem gm_J7_fill_d0a16 : jmS mJ7_fill_d0a16 2 := ⟨⟨jt3 106 rfl rfl, jt1 18 rfl rfl, (by decide +kernel), by decide⟩, jt3 105 rfl rfl⟩
abbrev mJ7_fill_53178 : jMI := (yJ7_fill_53178, cJ7_fill_53178, 4, none)
set_option maxRecDepth 20000 in
theorem gm_J7_fill_53178 : jmS mJ7_fill_53178 2 := ⟨⟨jt3 203 rfl rfl, jt1 18 rfl rfl, (by decide +kernel), by decide⟩, jt3 202 rfl rfl⟩
abbrev mJ3_checkIndex_8e157 : jMI := (yJ3_checkIndex_8e157, cJ3_checkIndex_8e157, 3, (some .int))
set_option maxRecDepth 20000 in
theorem gm_J3_checkIndex_8e157 : jmS mJ3_checkIndex_8e157 3 := ⟨⟨jt1 156 rfl rfl, jt1 7 rfl rfl, (by decide +kernel), by decide⟩, jt1 155 rfl rfl⟩
set_option maxRecDepth 20000 in
theorem ml_X11_87 : Cond.methodLink RX11 87 yX11_isTray ∈ jtbl := jt3 93 rfl rfl
set_option maxRecDepth 20000 in
theorem ml_X11_91 : Cond.methodLink RX11 91 yX11_isDone ∈ jtbl := jt3 96 rfl rfl
set_option maxRecDepth 20000 in
theorem ml_X11_94 : Cond.methodLink RX11 94 yX9_lay ∈ jtbl := jt3 100 rfl rfl
set_option maxRecDepth 20000 in
theorem ml_X11_98 : Cond.methodLink RX11 98 yX11_trayPlaceStatus ∈ jtbl := jt3 111 rfl rfl
set_option maxRecDepth 20000 in
theorem ml_X11_102 : Cond.methodLink RX11 102 yX9_put ∈ jtbl := jt3 119 rfl rfl
set_option maxRecDepth 20000 in
theorem ml_X11_106 : Cond.methodLink RX11 106 yX11_refused ∈ jtbl := jt3 127 rfl rfl
set_option maxRecDepth 20000 in
theorem ml_X11_120 : Cond.methodLink RX11 120 yX9_hasPlaces ∈ jtbl := jt3 115 rfl rfl
set_option maxRecDepth 20000 in
theorem ml_X11_133 : Cond.methodLink RX11 133 yX11_putBytes ∈ jtbl := jt3 142 rfl rfl
set_option maxRecDepth 20000 in
theorem ml_X11_137 : Cond.methodLink RX11 137 yX6_readPlain ∈ jtbl := jt3 150 rfl rfl
set_option maxRecDepth 20000 in
theorem ml_X11_145 : Cond.methodLink RX11 145 yX11_tellFault ∈ jtbl := jt4 6 rfl rfl
set_option maxRecDepth 20000 in
theorem ml_X11_153 : Cond.methodLink RX11 153 yX10_settle ∈ jtbl := jt4 10 rfl rfl
set_option maxRecDepth 20000 in
theorem ml_X11_165 : Cond.methodLink RX11 165 yX11_answered ∈ jtbl := jt4 24 rfl rfl
set_option maxRecDepth 20000 in
theorem ml_X11_168 : Cond.methodLink RX11 168 yX4_readOrders ∈ jtbl := jt4 32 rfl rfl
set_option maxRecDepth 20000 in
theorem ml_X11_179 : Cond.methodLink RX11 179 yX3_copyFrom ∈ jtbl := jt4 89 rfl rfl
set_option maxRecDepth 20000 in
theorem ml_X11_197 : Cond.methodLink RX11 197 yX5_hasCell ∈ jtbl := jt4 106 rfl rfl
set_option maxRecDepth 20000 in
theorem ml_X11_209 : Cond.methodLink RX11 209 yX5_hasVillage ∈ jtbl := jt4 114 rfl rfl
set_option maxRecDepth 20000 in
theorem ml_X11_215 : Cond.methodLink RX11 215 yX5_stripsOf ∈ jtbl := jt4 118 rfl rfl
set_option maxRecDepth 20000 in
theorem ml_X11_218 : Cond.methodLink RX11 218 yX5_hasSky ∈ jtbl := jt4 119 rfl rfl
set_option maxRecDepth 20000 in
theorem ml_X11_221 : Cond.methodLink RX11 221 yX5_hasStrip ∈ jtbl := jt4 127 rfl rfl
set_option maxRecDepth 20000 in
theorem ml_X11_227 : Cond.methodLink RX11 227 yX5_stripAt ∈ jtbl := jt4 137 rfl rfl
set_option maxRecDepth 20000 in
theorem ml_X11_233 : Cond.methodLink RX11 233 yX11_isHeight ∈ jtbl := jt4 149 rfl rfl
set_option maxRecDepth 20000 in
theorem ml_X11_237 : Cond.methodLink RX11 237 yX11_trayRowStatus ∈ jtbl := jt4 157 rfl rfl
set_option maxRecDepth 20000 in
theorem ml_X11_240 : Cond.methodLink RX11 240 yX9_copyHeights ∈ jtbl := jt4 167 rfl rfl
set_option maxRecDepth 20000 in
theorem ml_X11_244 : Cond.methodLink RX11 244 yX5_sightOf ∈ jtbl := jt4 175 rfl rfl
set_option maxRecDepth 20000 in
theorem ml_X11_248 : Cond.methodLink RX11 248 yX5_firstUnlikeVillage ∈ jtbl := jt4 187 rfl rfl
set_option maxRecDepth 20000 in
theorem ml_X11_252 : Cond.methodLink RX11 252 yX5_firstUnlikeStrip ∈ jtbl := jt4 200 rfl rfl
set_option maxRecDepth 20000 in
theorem ml_X11_256 : Cond.methodLink RX11 256 yX5_stoneOf ∈ jtbl := jt4 205 rfl rfl
set_option maxRecDepth 20000 in
theorem ml_X11_259 : Cond.methodLink RX11 259 yX5_hasSet ∈ jtbl := jt4 213 rfl rfl
set_option maxRecDepth 20000 in
theorem ml_X11_262 : Cond.methodLink RX11 262 yX8_wantPromises ∈ jtbl := jt4 217 rfl rfl
set_option maxRecDepth 20000 in
theorem ml_X11_269 : Cond.methodLink RX11 269 yX11_canKeep ∈ jtbl := jt4 236 rfl rfl
set_option maxRecDepth 20000 in
theorem ml_X11_275 : Cond.methodLink RX11 275 yX11_keptStatus ∈ jtbl := jt5 19 rfl rfl
set_option maxRecDepth 20000 in
theorem ml_X11_278 : Cond.methodLink RX11 278 yX8_cheapestTown ∈ jtbl := jt5 27 rfl rfl
set_option maxRecDepth 20000 in
theorem ml_X11_282 : Cond.methodLink RX11 282 yX11_tellFraction ∈ jtbl := jt5 90 rfl rfl
set_option maxRecDepth 20000 in
theorem ml_X11_285 : Cond.methodLink RX11 285 yX8_fewestRaised ∈ jtbl := jt5 101 rfl rfl
set_option maxRecDepth 20000 in
theorem ml_X11_289 : Cond.methodLink RX11 289 yX5_stripsPromised ∈ jtbl := jt5 110 rfl rfl
set_option maxRecDepth 20000 in
theorem ml_X11_292 : Cond.methodLink RX11 292 yX8_countTowns ∈ jtbl := jt5 114 rfl rfl
set_option maxRecDepth 20000 in
theorem ml_X11_295 : Cond.methodLink RX11 295 yX8_mustRaise ∈ jtbl := jt5 150 rfl rfl
set_option maxRecDepth 20000 in
theorem ml_X11_299 : Cond.methodLink RX11 299 yJ6_bitCount_0f7a4 ∈ jtbl := jt5 158 rfl rfl
set_option maxRecDepth 20000 in
theorem ml_X11_304 : Cond.methodLink RX11 304 yJ9_min_7cf53 ∈ jtbl := jt5 163 rfl rfl
set_option maxRecDepth 20000 in
theorem ml_X11_309 : Cond.methodLink RX11 309 yX8_wantViews ∈ jtbl := jt5 168 rfl rfl
set_option maxRecDepth 20000 in
theorem ml_X11_312 : Cond.methodLink RX11 312 yX8_keepLow ∈ jtbl := jt5 176 rfl rfl
set_option maxRecDepth 20000 in
theorem ml_X11_315 : Cond.methodLink RX11 315 yX8_canBeKept ∈ jtbl := jt5 0 rfl rfl
set_option maxRecDepth 20000 in
theorem ml_X11_319 : Cond.methodLink RX11 319 yX11_coupleStatus ∈ jtbl := jt5 184 rfl rfl
set_option maxRecDepth 20000 in
theorem ml_X11_329 : Cond.methodLink RX11 329 yX0_firstStripApart ∈ jtbl := jt5 187 rfl rfl
set_option maxRecDepth 20000 in
theorem ml_X11_333 : Cond.methodLink RX11 333 yX11_toldStatus ∈ jtbl := jt5 197 rfl rfl
set_option maxRecDepth 20000 in
theorem ml_X11_337 : Cond.methodLink RX11 337 yX0_fewestWatchers ∈ jtbl := jt5 201 rfl rfl
set_option maxRecDepth 20000 in
theorem ml_X11_341 : Cond.methodLink RX11 341 yX5_stripsFrom ∈ jtbl := jt5 221 rfl rfl
set_option maxRecDepth 20000 in
theorem ml_X11_344 : Cond.methodLink RX11 344 yX5_lookFrom ∈ jtbl := jt5 222 rfl rfl
set_option maxRecDepth 20000 in
theorem ml_X11_348 : Cond.methodLink RX11 348 yX9_beginsLike ∈ jtbl := jt5 223 rfl rfl
set_option maxRecDepth 20000 in
theorem ml_X11_352 : Cond.methodLink RX11 352 yX0_cellsUnlike ∈ jtbl := jt5 231 rfl rfl
set_option maxRecDepth 20000 in
theorem ml_X11_355 : Cond.methodLink RX11 355 yX0_looksAlike ∈ jtbl := jt5 235 rfl rfl
set_option maxRecDepth 20000 in
theorem ml_X11_358 : Cond.methodLink RX11 358 yX0_findOrder ∈ jtbl := jt5 239 rfl rfl
set_option maxRecDepth 20000 in
theorem ml_X11_367 : Cond.methodLink RX11 367 yX8_wantFromAll ∈ jtbl := jt6 19 rfl rfl
set_option maxRecDepth 20000 in
theorem ml_X11_370 : Cond.methodLink RX11 370 yX5_lowestSight ∈ jtbl := jt6 27 rfl rfl
set_option maxRecDepth 20000 in
theorem ml_X11_373 : Cond.methodLink RX11 373 yJ7_fill_53178 ∈ jtbl := jt6 32 rfl rfl
set_option maxRecDepth 20000 in
theorem ml_X11_379 : Cond.methodLink RX11 379 yX11_isSeed ∈ jtbl := jt6 37 rfl rfl
set_option maxRecDepth 20000 in
theorem ml_X11_383 : Cond.methodLink RX11 383 yX2_work ∈ jtbl := jt6 40 rfl rfl
set_option maxRecDepth 20000 in
theorem ml_X11_400 : Cond.methodLink RX11 400 yX10_copyFrom ∈ jtbl := jt6 93 rfl rfl
set_option maxRecDepth 20000 in
theorem ml_X11_411 : Cond.methodLink RX11 411 yX11_commonDivisor ∈ jtbl := jt5 94 rfl rfl
set_option maxRecDepth 20000 in
theorem ml_X11_416 : Cond.methodLink RX11 416 yX9_rowStatus ∈ jtbl := jt4 161 rfl rfl
set_option maxRecDepth 20000 in
theorem ml_X0_38 : Cond.methodLink RX0 38 yX5_lookFrom ∈ jtbl := jt5 191 rfl rfl
set_option maxRecDepth 20000 in
theorem ml_X0_42 : Cond.methodLink RX0 42 yX5_stripsOf ∈ jtbl := jt5 192 rfl rfl
set_option maxRecDepth 20000 in
theorem ml_X0_46 : Cond.methodLink RX0 46 yX0_tellRowsApart ∈ jtbl := jt5 205 rfl rfl
set_option maxRecDepth 20000 in
theorem ml_X0_54 : Cond.methodLink RX0 54 yJ6_bitCount_0f7a4 ∈ jtbl := jt5 212 rfl rfl
set_option maxRecDepth 20000 in
theorem ml_X0_59 : Cond.methodLink RX0 59 yX0_couplesTold ∈ jtbl := jt5 213 rfl rfl
set_option maxRecDepth 20000 in
theorem ml_X0_62 : Cond.methodLink RX0 62 yJ7_fill_53178 ∈ jtbl := jt5 209 rfl rfl
set_option maxRecDepth 20000 in
theorem ml_X0_71 : Cond.methodLink RX0 71 yX9_copyHeights ∈ jtbl := jt5 210 rfl rfl
set_option maxRecDepth 20000 in
theorem ml_X0_77 : Cond.methodLink RX0 77 yX0_firstStripApart ∈ jtbl := jt5 211 rfl rfl
set_option maxRecDepth 20000 in
theorem ml_X0_81 : Cond.methodLink RX0 81 yX0_cellsUnlike ∈ jtbl := jt6 3 rfl rfl
set_option maxRecDepth 20000 in
theorem ml_X0_85 : Cond.methodLink RX0 85 yJ9_min_7cf53 ∈ jtbl := jt6 4 rfl rfl
set_option maxRecDepth 20000 in
theorem ml_X0_100 : Cond.methodLink RX0 100 yX0_changeFirst ∈ jtbl := jt6 6 rfl rfl
set_option maxRecDepth 20000 in
theorem ml_X0_103 : Cond.methodLink RX0 103 yX0_looksAlike ∈ jtbl := jt6 10 rfl rfl
set_option maxRecDepth 20000 in
theorem ml_X1_38 : Cond.methodLink RX1 38 yX1_move ∈ jtbl := jt5 47 rfl rfl
set_option maxRecDepth 20000 in
theorem ml_X1_42 : Cond.methodLink RX1 42 yJ6_bitCount_0f7a4 ∈ jtbl := jt5 55 rfl rfl
set_option maxRecDepth 20000 in
theorem ml_X1_54 : Cond.methodLink RX1 54 yX1_search ∈ jtbl := jt5 66 rfl rfl
set_option maxRecDepth 20000 in
theorem ml_X1_58 : Cond.methodLink RX1 58 yX1_floorOf ∈ jtbl := jt5 70 rfl rfl
set_option maxRecDepth 20000 in
theorem ml_X1_65 : Cond.methodLink RX1 65 yX1_lightest ∈ jtbl := jt5 75 rfl rfl
set_option maxRecDepth 20000 in
theorem ml_X1_69 : Cond.methodLink RX1 69 yJ7_fill_d0a16 ∈ jtbl := jt5 74 rfl rfl
set_option maxRecDepth 20000 in
theorem ml_X1_75 : Cond.methodLink RX1 75 yJ9_max_f86c9 ∈ jtbl := jt5 83 rfl rfl
set_option maxRecDepth 20000 in
theorem ml_X1_81 : Cond.methodLink RX1 81 yJ6_numberOfTrailingZeros_0f7a4 ∈ jtbl := jt5 78 rfl rfl
set_option maxRecDepth 20000 in
theorem ml_X1_84 : Cond.methodLink RX1 84 yJ9_max_7cf53 ∈ jtbl := jt5 82 rfl rfl
set_option maxRecDepth 20000 in
theorem ml_X1_87 : Cond.methodLink RX1 87 yX1_holdSlots ∈ jtbl := jt5 122 rfl rfl
set_option maxRecDepth 20000 in
theorem ml_X1_91 : Cond.methodLink RX1 91 yX1_slotsMet ∈ jtbl := jt5 133 rfl rfl
set_option maxRecDepth 20000 in
theorem ml_X1_94 : Cond.methodLink RX1 94 yX1_raiseOrNot ∈ jtbl := jt5 137 rfl rfl
set_option maxRecDepth 20000 in
theorem ml_X1_98 : Cond.methodLink RX1 98 yX1_slotsClosing ∈ jtbl := jt5 129 rfl rfl
set_option maxRecDepth 20000 in
theorem ml_X1_101 : Cond.methodLink RX1 101 yX1_closeSlots ∈ jtbl := jt5 142 rfl rfl
set_option maxRecDepth 20000 in
theorem ml_X1_106 : Cond.methodLink RX1 106 yJ6_numberOfLeadingZeros_0f7a4 ∈ jtbl := jt5 126 rfl rfl
set_option maxRecDepth 20000 in
theorem ml_X2_40 : Cond.methodLink RX2 40 yX2_behindEnd ∈ jtbl := jt6 45 rfl rfl
set_option maxRecDepth 20000 in
theorem ml_X2_44 : Cond.methodLink RX2 44 yX2_behindStep ∈ jtbl := jt6 49 rfl rfl
set_option maxRecDepth 20000 in
theorem ml_X2_54 : Cond.methodLink RX2 54 yX5_hasCell ∈ jtbl := jt6 53 rfl rfl
set_option maxRecDepth 20000 in
theorem ml_X2_63 : Cond.methodLink RX2 63 yX2_lay ∈ jtbl := jt6 54 rfl rfl
set_option maxRecDepth 20000 in
theorem ml_X2_67 : Cond.methodLink RX2 67 yX2_take ∈ jtbl := jt6 59 rfl rfl
set_option maxRecDepth 20000 in
theorem ml_X2_73 : Cond.methodLink RX2 73 yX2_rage ∈ jtbl := jt6 63 rfl rfl
set_option maxRecDepth 20000 in
theorem ml_X2_76 : Cond.methodLink RX2 76 yX2_isSo ∈ jtbl := jt6 68 rfl rfl
set_option maxRecDepth 20000 in
theorem ml_X2_80 : Cond.methodLink RX2 80 yJ9_min_7cf53 ∈ jtbl := jt6 58 rfl rfl
set_option maxRecDepth 20000 in
theorem ml_X2_93 : Cond.methodLink RX2 93 yX2_compares ∈ jtbl := jt6 72 rfl rfl
set_option maxRecDepth 20000 in
theorem ml_X2_100 : Cond.methodLink RX2 100 yX5_hasStrip ∈ jtbl := jt6 75 rfl rfl
set_option maxRecDepth 20000 in
theorem ml_X2_104 : Cond.methodLink RX2 104 yX5_sightOf ∈ jtbl := jt6 76 rfl rfl
set_option maxRecDepth 20000 in
theorem ml_X2_108 : Cond.methodLink RX2 108 yX5_hasVillage ∈ jtbl := jt6 77 rfl rfl
set_option maxRecDepth 20000 in
theorem ml_X2_111 : Cond.methodLink RX2 111 yX5_hasSky ∈ jtbl := jt6 78 rfl rfl
set_option maxRecDepth 20000 in
theorem ml_X2_114 : Cond.methodLink RX2 114 yX5_firstUnlikeStrip ∈ jtbl := jt6 79 rfl rfl
set_option maxRecDepth 20000 in
theorem ml_X2_118 : Cond.methodLink RX2 118 yX5_stoneOf ∈ jtbl := jt6 80 rfl rfl
set_option maxRecDepth 20000 in
theorem ml_X4_20 : Cond.methodLink RX4 20 yX7_init ∈ jtbl := jt2 72 rfl rfl
set_option maxRecDepth 20000 in
theorem ml_X4_33 : Cond.methodLink RX4 33 yX3_begin ∈ jtbl := jt4 36 rfl rfl
set_option maxRecDepth 20000 in
theorem ml_X4_37 : Cond.methodLink RX4 37 yX7_begin ∈ jtbl := jt4 37 rfl rfl
set_option maxRecDepth 20000 in
theorem ml_X4_46 : Cond.methodLink RX4 46 yX4_readEnd ∈ jtbl := jt4 38 rfl rfl
set_option maxRecDepth 20000 in
theorem ml_X4_50 : Cond.methodLink RX4 50 yX4_openStep ∈ jtbl := jt4 44 rfl rfl
set_option maxRecDepth 20000 in
theorem ml_X4_53 : Cond.methodLink RX4 53 yX4_readRest ∈ jtbl := jt4 49 rfl rfl
set_option maxRecDepth 20000 in
theorem ml_X4_57 : Cond.methodLink RX4 57 yX7_takeSemicolon ∈ jtbl := jt4 88 rfl rfl
set_option maxRecDepth 20000 in
theorem ml_X4_60 : Cond.methodLink RX4 60 yX7_refuse ∈ jtbl := jt4 42 rfl rfl
set_option maxRecDepth 20000 in
theorem ml_X4_73 : Cond.methodLink RX4 73 yX7_takeWord ∈ jtbl := jt4 43 rfl rfl
set_option maxRecDepth 20000 in
theorem ml_X4_79 : Cond.methodLink RX4 79 yX7_step ∈ jtbl := jt4 48 rfl rfl
set_option maxRecDepth 20000 in
theorem ml_X4_82 : Cond.methodLink RX4 82 yX4_readCell ∈ jtbl := jt4 53 rfl rfl
set_option maxRecDepth 20000 in
theorem ml_X4_86 : Cond.methodLink RX4 86 yX4_readBy ∈ jtbl := jt4 58 rfl rfl
set_option maxRecDepth 20000 in
theorem ml_X4_89 : Cond.methodLink RX4 89 yX4_readNumber ∈ jtbl := jt4 62 rfl rfl
set_option maxRecDepth 20000 in
theorem ml_X4_93 : Cond.methodLink RX4 93 yX4_readTest ∈ jtbl := jt4 66 rfl rfl
set_option maxRecDepth 20000 in
theorem ml_X4_101 : Cond.methodLink RX4 101 yX7_takeNumber ∈ jtbl := jt4 57 rfl rfl
set_option maxRecDepth 20000 in
theorem ml_X4_118 : Cond.methodLink RX4 118 yX4_readCompares ∈ jtbl := jt4 70 rfl rfl
set_option maxRecDepth 20000 in
theorem ml_X4_121 : Cond.methodLink RX4 121 yX4_readName ∈ jtbl := jt4 78 rfl rfl
set_option maxRecDepth 20000 in
theorem ml_X4_124 : Cond.methodLink RX4 124 yX4_readStrip ∈ jtbl := jt4 84 rfl rfl
set_option maxRecDepth 20000 in
theorem ml_X4_127 : Cond.methodLink RX4 127 yX7_isName ∈ jtbl := jt4 82 rfl rfl
set_option maxRecDepth 20000 in
theorem ml_X4_134 : Cond.methodLink RX4 134 yX5_villageNamed ∈ jtbl := jt4 83 rfl rfl
set_option maxRecDepth 20000 in
theorem ml_X4_141 : Cond.methodLink RX4 141 yX7_takeCompares ∈ jtbl := jt4 74 rfl rfl
set_option maxRecDepth 20000 in
theorem ml_X5_53 : Cond.methodLink RX5 53 yJ7_fill_53178 ∈ jtbl := jt3 201 rfl rfl
set_option maxRecDepth 20000 in
theorem ml_X5_59 : Cond.methodLink RX5 59 yX5_stripOf ∈ jtbl := jt3 204 rfl rfl
set_option maxRecDepth 20000 in
theorem ml_X5_69 : Cond.methodLink RX5 69 yX5_hasVillage ∈ jtbl := jt4 131 rfl rfl
set_option maxRecDepth 20000 in
theorem ml_X5_73 : Cond.methodLink RX5 73 yX5_stripsOf ∈ jtbl := jt4 132 rfl rfl
set_option maxRecDepth 20000 in
theorem ml_X5_77 : Cond.methodLink RX5 77 yX5_stripsFrom ∈ jtbl := jt4 2 rfl rfl
set_option maxRecDepth 20000 in
theorem ml_X5_80 : Cond.methodLink RX5 80 yX5_stripAt ∈ jtbl := jt4 179 rfl rfl
set_option maxRecDepth 20000 in
theorem ml_X5_84 : Cond.methodLink RX5 84 yJ9_max_7cf53 ∈ jtbl := jt4 180 rfl rfl
set_option maxRecDepth 20000 in
theorem ml_X5_89 : Cond.methodLink RX5 89 yX5_lookFrom ∈ jtbl := jt4 196 rfl rfl
set_option maxRecDepth 20000 in
theorem ml_X5_93 : Cond.methodLink RX5 93 yJ9_min_7cf53 ∈ jtbl := jt6 31 rfl rfl
set_option maxRecDepth 20000 in
theorem ml_X5_96 : Cond.methodLink RX5 96 yX5_hasSky ∈ jtbl := jt4 191 rfl rfl
set_option maxRecDepth 20000 in
theorem ml_X5_99 : Cond.methodLink RX5 99 yX5_firstUnlikeStrip ∈ jtbl := jt4 192 rfl rfl
set_option maxRecDepth 20000 in
theorem ml_X6_20 : Cond.methodLink RX6 20 yX7_init ∈ jtbl := jt1 123 rfl rfl
set_option maxRecDepth 20000 in
theorem ml_X6_25 : Cond.methodLink RX6 25 yX7_begin ∈ jtbl := jt3 154 rfl rfl
set_option maxRecDepth 20000 in
theorem ml_X6_39 : Cond.methodLink RX6 39 yX6_readSize ∈ jtbl := jt3 177 rfl rfl
set_option maxRecDepth 20000 in
theorem ml_X6_46 : Cond.methodLink RX6 46 yX6_readPart ∈ jtbl := jt3 208 rfl rfl
set_option maxRecDepth 20000 in
theorem ml_X6_49 : Cond.methodLink RX6 49 yX7_takeWord ∈ jtbl := jt3 181 rfl rfl
set_option maxRecDepth 20000 in
theorem ml_X6_53 : Cond.methodLink RX6 53 yX7_takeNumber ∈ jtbl := jt3 189 rfl rfl
set_option maxRecDepth 20000 in
theorem ml_X6_60 : Cond.methodLink RX6 60 yX7_takeSemicolon ∈ jtbl := jt3 193 rfl rfl
set_option maxRecDepth 20000 in
theorem ml_X6_63 : Cond.methodLink RX6 63 yX5_begin ∈ jtbl := jt3 197 rfl rfl
set_option maxRecDepth 20000 in
theorem ml_X6_73 : Cond.methodLink RX6 73 yX6_readCells ∈ jtbl := jt3 212 rfl rfl
set_option maxRecDepth 20000 in
theorem ml_X6_83 : Cond.methodLink RX6 83 yX6_readVillage ∈ jtbl := jt3 222 rfl rfl
set_option maxRecDepth 20000 in
theorem ml_X6_86 : Cond.methodLink RX6 86 yX7_refuse ∈ jtbl := jt3 216 rfl rfl
set_option maxRecDepth 20000 in
theorem ml_X6_92 : Cond.methodLink RX6 92 yX7_step ∈ jtbl := jt3 217 rfl rfl
set_option maxRecDepth 20000 in
theorem ml_X6_98 : Cond.methodLink RX6 98 yX6_readRow ∈ jtbl := jt3 218 rfl rfl
set_option maxRecDepth 20000 in
theorem ml_X6_111 : Cond.methodLink RX6 111 yX7_isName ∈ jtbl := jt3 226 rfl rfl
set_option maxRecDepth 20000 in
theorem ml_X6_118 : Cond.methodLink RX6 118 yX5_villageNamed ∈ jtbl := jt3 230 rfl rfl
set_option maxRecDepth 20000 in
theorem ml_X6_126 : Cond.methodLink RX6 126 yX7_isSide ∈ jtbl := jt3 234 rfl rfl
set_option maxRecDepth 20000 in
theorem ml_X6_138 : Cond.methodLink RX6 138 yX5_stripsOf ∈ jtbl := jt3 238 rfl rfl
set_option maxRecDepth 20000 in
theorem ml_X7_21 : Cond.methodLink RX7 21 yJ0_length_8abf5 ∈ jtbl := jt1 128 rfl rfl
set_option maxRecDepth 20000 in
theorem ml_X7_27 : Cond.methodLink RX7 27 yJ0_charAt_5068e ∈ jtbl := jt1 138 rfl rfl
set_option maxRecDepth 20000 in
theorem ml_X7_31 : Cond.methodLink RX7 31 yJ9_min_7cf53 ∈ jtbl := jt3 158 rfl rfl
set_option maxRecDepth 20000 in
theorem ml_X7_49 : Cond.methodLink RX7 49 yX7_step ∈ jtbl := jt3 161 rfl rfl
set_option maxRecDepth 20000 in
theorem ml_X7_61 : Cond.methodLink RX7 61 yX7_readWord ∈ jtbl := jt3 165 rfl rfl
set_option maxRecDepth 20000 in
theorem ml_X7_64 : Cond.methodLink RX7 64 yX7_readDigits ∈ jtbl := jt3 169 rfl rfl
set_option maxRecDepth 20000 in
theorem ml_X7_67 : Cond.methodLink RX7 67 yX7_readSign ∈ jtbl := jt3 173 rfl rfl
set_option maxRecDepth 20000 in
theorem ml_X7_83 : Cond.methodLink RX7 83 yX7_refuse ∈ jtbl := jt3 185 rfl rfl
set_option maxRecDepth 20000 in
theorem ml_X8_53 : Cond.methodLink RX8 53 yX8_findCaps ∈ jtbl := jt4 222 rfl rfl
set_option maxRecDepth 20000 in
theorem ml_X8_60 : Cond.methodLink RX8 60 yX5_lookFromAll ∈ jtbl := jt5 172 rfl rfl
set_option maxRecDepth 20000 in
theorem ml_X8_70 : Cond.methodLink RX8 70 yX8_isWatching ∈ jtbl := jt4 226 rfl rfl
set_option maxRecDepth 20000 in
theorem ml_X8_77 : Cond.methodLink RX8 77 yX5_stripAt ∈ jtbl := jt4 230 rfl rfl
set_option maxRecDepth 20000 in
theorem ml_X8_81 : Cond.methodLink RX8 81 yJ9_min_7cf53 ∈ jtbl := jt4 231 rfl rfl
set_option maxRecDepth 20000 in
theorem ml_X8_89 : Cond.methodLink RX8 89 yJ7_fill_53178 ∈ jtbl := jt5 4 rfl rfl
set_option maxRecDepth 20000 in
theorem ml_X8_95 : Cond.methodLink RX8 95 yX8_isSeenByCaps ∈ jtbl := jt5 5 rfl rfl
set_option maxRecDepth 20000 in
theorem ml_X8_99 : Cond.methodLink RX8 99 yX5_lookFrom ∈ jtbl := jt5 9 rfl rfl
set_option maxRecDepth 20000 in
theorem ml_X8_103 : Cond.methodLink RX8 103 yX5_stripsOf ∈ jtbl := jt5 10 rfl rfl
set_option maxRecDepth 20000 in
theorem ml_X8_107 : Cond.methodLink RX8 107 yX1_begin ∈ jtbl := jt5 35 rfl rfl
set_option maxRecDepth 20000 in
theorem ml_X8_110 : Cond.methodLink RX8 110 yX8_gatherNeedsOf ∈ jtbl := jt5 39 rfl rfl
set_option maxRecDepth 20000 in
theorem ml_X8_114 : Cond.methodLink RX8 114 yX1_findForced ∈ jtbl := jt5 51 rfl rfl
set_option maxRecDepth 20000 in
theorem ml_X8_117 : Cond.methodLink RX8 117 yX1_require ∈ jtbl := jt5 43 rfl rfl
set_option maxRecDepth 20000 in
theorem ml_X8_121 : Cond.methodLink RX8 121 yX8_gatherNeeds ∈ jtbl := jt5 31 rfl rfl
set_option maxRecDepth 20000 in
theorem ml_X8_127 : Cond.methodLink RX8 127 yX1_leastWeight ∈ jtbl := jt5 61 rfl rfl
set_option maxRecDepth 20000 in
theorem ml_X8_131 : Cond.methodLink RX8 131 yJ7_fill_d0a16 ∈ jtbl := jt5 105 rfl rfl
set_option maxRecDepth 20000 in
theorem ml_X8_137 : Cond.methodLink RX8 137 yX1_countWays ∈ jtbl := jt5 118 rfl rfl
set_option maxRecDepth 20000 in
theorem ml_X9_26 : Cond.methodLink RX9 26 yJ7_fill_d0a16 ∈ jtbl := jt3 104 rfl rfl
set_option maxRecDepth 20000 in
theorem ml_X9_32 : Cond.methodLink RX9 32 yX9_hasPlaces ∈ jtbl := jt4 165 rfl rfl
set_option maxRecDepth 20000 in
theorem ml_X10_29 : Cond.methodLink RX10 29 yX5_copyFrom ∈ jtbl := jt4 14 rfl rfl
set_option maxRecDepth 20000 in
theorem ml_X10_42 : Cond.methodLink RX10 42 yX3_begin ∈ jtbl := jt4 20 rfl rfl
set_option maxRecDepth 20000 in
theorem ml_X10_46 : Cond.methodLink RX10 46 yX3_copyFrom ∈ jtbl := jt6 97 rfl rfl
set_option maxRecDepth 20000 in
theorem ml_X12_90 : Cond.methodLink RX12 90 yJ9_abs_067f4 ∈ jtbl := jt8 191 rfl rfl
set_option maxRecDepth 20000 in
theorem ml_X12_96 : Cond.methodLink RX12 96 yX12_no ∈ jtbl := jt7 48 rfl rfl
set_option maxRecDepth 20000 in
theorem ml_X12_100 : Cond.methodLink RX12 100 yX12_trayed ∈ jtbl := jt7 60 rfl rfl
set_option maxRecDepth 20000 in
theorem ml_X12_104 : Cond.methodLink RX12 104 yX12_placed ∈ jtbl := jt7 56 rfl rfl
set_option maxRecDepth 20000 in
theorem ml_X12_108 : Cond.methodLink RX12 108 yX12_cut ∈ jtbl := jt7 64 rfl rfl
set_option maxRecDepth 20000 in
theorem ml_X12_116 : Cond.methodLink RX12 116 yX12_isIn ∈ jtbl := jt7 118 rfl rfl
set_option maxRecDepth 20000 in
theorem ml_X12_129 : Cond.methodLink RX12 129 yX12_look2 ∈ jtbl := jt7 100 rfl rfl
set_option maxRecDepth 20000 in
theorem ml_X12_135 : Cond.methodLink RX12 135 yX12_isLetter ∈ jtbl := jt7 104 rfl rfl
set_option maxRecDepth 20000 in
theorem ml_X12_148 : Cond.methodLink RX12 148 yX12_isDigit ∈ jtbl := jt7 109 rfl rfl
set_option maxRecDepth 20000 in
theorem ml_X12_154 : Cond.methodLink RX12 154 yX12_isSignByte ∈ jtbl := jt7 112 rfl rfl
set_option maxRecDepth 20000 in
theorem ml_X12_157 : Cond.methodLink RX12 157 yX12_spelled ∈ jtbl := jt7 127 rfl rfl
set_option maxRecDepth 20000 in
theorem ml_X12_161 : Cond.methodLink RX12 161 yX12_isWord ∈ jtbl := jt7 130 rfl rfl
set_option maxRecDepth 20000 in
theorem ml_X12_167 : Cond.methodLink RX12 167 yX12_sideWord ∈ jtbl := jt7 191 rfl rfl
set_option maxRecDepth 20000 in
theorem ml_X12_171 : Cond.methodLink RX12 171 yX12_isSize ∈ jtbl := jt7 123 rfl rfl
set_option maxRecDepth 20000 in
theorem ml_X12_175 : Cond.methodLink RX12 175 yX12_isMost ∈ jtbl := jt7 154 rfl rfl
set_option maxRecDepth 20000 in
theorem ml_X12_178 : Cond.methodLink RX12 178 yX12_isLeast ∈ jtbl := jt7 166 rfl rfl
set_option maxRecDepth 20000 in
theorem ml_X12_181 : Cond.methodLink RX12 181 yX12_isPrice ∈ jtbl := jt7 170 rfl rfl
set_option maxRecDepth 20000 in
theorem ml_X12_184 : Cond.methodLink RX12 184 yX12_isVillageWord ∈ jtbl := jt7 174 rfl rfl
set_option maxRecDepth 20000 in
theorem ml_X12_187 : Cond.methodLink RX12 187 yX12_isSees ∈ jtbl := jt7 195 rfl rfl
set_option maxRecDepth 20000 in
theorem ml_X12_190 : Cond.methodLink RX12 190 yX12_isRaise ∈ jtbl := jt7 199 rfl rfl
set_option maxRecDepth 20000 in
theorem ml_X12_193 : Cond.methodLink RX12 193 yX12_isLower ∈ jtbl := jt7 203 rfl rfl
set_option maxRecDepth 20000 in
theorem ml_X12_196 : Cond.methodLink RX12 196 yX12_isBy ∈ jtbl := jt7 207 rfl rfl
set_option maxRecDepth 20000 in
theorem ml_X12_199 : Cond.methodLink RX12 199 yX12_isStorm ∈ jtbl := jt7 211 rfl rfl
set_option maxRecDepth 20000 in
theorem ml_X12_202 : Cond.methodLink RX12 202 yX12_isWhen ∈ jtbl := jt7 215 rfl rfl
set_option maxRecDepth 20000 in
theorem ml_X12_205 : Cond.methodLink RX12 205 yX12_isCellWord ∈ jtbl := jt7 219 rfl rfl
set_option maxRecDepth 20000 in
theorem ml_X12_208 : Cond.methodLink RX12 208 yX12_isAt ∈ jtbl := jt7 223 rfl rfl
set_option maxRecDepth 20000 in
theorem ml_X12_211 : Cond.methodLink RX12 211 yX12_isSame ∈ jtbl := jt7 227 rfl rfl
set_option maxRecDepth 20000 in
theorem ml_X12_214 : Cond.methodLink RX12 214 yX12_isStone ∈ jtbl := jt7 231 rfl rfl
set_option maxRecDepth 20000 in
theorem ml_X12_217 : Cond.methodLink RX12 217 yX12_isLoop ∈ jtbl := jt7 235 rfl rfl
set_option maxRecDepth 20000 in
theorem ml_X12_220 : Cond.methodLink RX12 220 yX12_isEnd ∈ jtbl := jt7 239 rfl rfl
set_option maxRecDepth 20000 in
theorem ml_X12_223 : Cond.methodLink RX12 223 yX12_isStop ∈ jtbl := jt8 3 rfl rfl
set_option maxRecDepth 20000 in
theorem ml_X12_226 : Cond.methodLink RX12 226 yX12_isKept ∈ jtbl := jt7 187 rfl rfl
set_option maxRecDepth 20000 in
theorem ml_X12_235 : Cond.methodLink RX12 235 yX12_fail ∈ jtbl := jt7 142 rfl rfl
set_option maxRecDepth 20000 in
theorem ml_X12_239 : Cond.methodLink RX12 239 yX12_next ∈ jtbl := jt7 96 rfl rfl
set_option maxRecDepth 20000 in
theorem ml_X12_242 : Cond.methodLink RX12 242 yX12_wrong ∈ jtbl := jt7 138 rfl rfl
set_option maxRecDepth 20000 in
theorem ml_X12_248 : Cond.methodLink RX12 248 yX12_lay ∈ jtbl := jt7 80 rfl rfl
set_option maxRecDepth 20000 in
theorem ml_X12_252 : Cond.methodLink RX12 252 yX12_isSign ∈ jtbl := jt7 150 rfl rfl
set_option maxRecDepth 20000 in
theorem ml_X12_255 : Cond.methodLink RX12 255 yX12_readRow ∈ jtbl := jt7 162 rfl rfl
set_option maxRecDepth 20000 in
theorem ml_X12_259 : Cond.methodLink RX12 259 yX12_isName ∈ jtbl := jt7 183 rfl rfl
set_option maxRecDepth 20000 in
theorem ml_X12_262 : Cond.methodLink RX12 262 yX12_named ∈ jtbl := jt8 7 rfl rfl
set_option maxRecDepth 20000 in
theorem ml_X12_265 : Cond.methodLink RX12 265 yX12_must ∈ jtbl := jt7 134 rfl rfl
set_option maxRecDepth 20000 in
theorem ml_X12_269 : Cond.methodLink RX12 269 yX12_stripsOf ∈ jtbl := jt8 11 rfl rfl
set_option maxRecDepth 20000 in
theorem ml_X12_273 : Cond.methodLink RX12 273 yX12_opens ∈ jtbl := jt7 92 rfl rfl
set_option maxRecDepth 20000 in
theorem ml_X12_292 : Cond.methodLink RX12 292 yX12_count ∈ jtbl := jt7 146 rfl rfl
set_option maxRecDepth 20000 in
theorem ml_X12_295 : Cond.methodLink RX12 295 yX12_readCells ∈ jtbl := jt7 158 rfl rfl
set_option maxRecDepth 20000 in
theorem ml_X12_299 : Cond.methodLink RX12 299 yX12_readVillage ∈ jtbl := jt7 179 rfl rfl
set_option maxRecDepth 20000 in
theorem ml_X12_302 : Cond.methodLink RX12 302 yX12_isWell ∈ jtbl := jt8 15 rfl rfl
set_option maxRecDepth 20000 in
theorem ml_X12_305 : Cond.methodLink RX12 305 yX12_cells ∈ jtbl := jt8 19 rfl rfl
set_option maxRecDepth 20000 in
theorem ml_X12_308 : Cond.methodLink RX12 308 yX12_isVillage ∈ jtbl := jt8 44 rfl rfl
set_option maxRecDepth 20000 in
theorem ml_X12_311 : Cond.methodLink RX12 311 yX12_strips ∈ jtbl := jt8 48 rfl rfl
set_option maxRecDepth 20000 in
theorem ml_X12_316 : Cond.methodLink RX12 316 yX12_refuse ∈ jtbl := jt8 28 rfl rfl
set_option maxRecDepth 20000 in
theorem ml_X12_319 : Cond.methodLink RX12 319 yX12_isCell ∈ jtbl := jt8 36 rfl rfl
set_option maxRecDepth 20000 in
theorem ml_X12_322 : Cond.methodLink RX12 322 yX12_isStrip ∈ jtbl := jt8 56 rfl rfl
set_option maxRecDepth 20000 in
theorem ml_X12_327 : Cond.methodLink RX12 327 yX12_stripOf ∈ jtbl := jt8 65 rfl rfl
set_option maxRecDepth 20000 in
theorem ml_X12_332 : Cond.methodLink RX12 332 yX12_numberOf ∈ jtbl := jt8 90 rfl rfl
set_option maxRecDepth 20000 in
theorem ml_X12_336 : Cond.methodLink RX12 336 yX12_isTray ∈ jtbl := jt8 82 rfl rfl
set_option maxRecDepth 20000 in
theorem ml_X12_339 : Cond.methodLink RX12 339 yX12_wrongRow ∈ jtbl := jt8 86 rfl rfl
set_option maxRecDepth 20000 in
theorem ml_X12_342 : Cond.methodLink RX12 342 yJ9_max_7cf53 ∈ jtbl := jt8 102 rfl rfl
set_option maxRecDepth 20000 in
theorem ml_X12_345 : Cond.methodLink RX12 345 yX12_seenFrom ∈ jtbl := jt8 98 rfl rfl
set_option maxRecDepth 20000 in
theorem ml_X12_348 : Cond.methodLink RX12 348 yX12_stoneNow ∈ jtbl := jt8 111 rfl rfl
set_option maxRecDepth 20000 in
theorem ml_X12_351 : Cond.methodLink RX12 351 yX12_tellCaps ∈ jtbl := jt8 127 rfl rfl
set_option maxRecDepth 20000 in
theorem ml_X12_354 : Cond.methodLink RX12 354 yJ9_min_7cf53 ∈ jtbl := jt8 131 rfl rfl
set_option maxRecDepth 20000 in
theorem ml_X12_366 : Cond.methodLink RX12 366 yX12_ableIn ∈ jtbl := jt8 140 rfl rfl
set_option maxRecDepth 20000 in
theorem ml_X12_369 : Cond.methodLink RX12 369 yX12_isSet ∈ jtbl := jt8 119 rfl rfl
set_option maxRecDepth 20000 in
theorem ml_X12_372 : Cond.methodLink RX12 372 yX12_ask ∈ jtbl := jt8 123 rfl rfl
set_option maxRecDepth 20000 in
theorem ml_X12_375 : Cond.methodLink RX12 375 yX12_canKeep ∈ jtbl := jt8 136 rfl rfl
set_option maxRecDepth 20000 in
theorem ml_X12_381 : Cond.methodLink RX12 381 yX12_has ∈ jtbl := jt8 164 rfl rfl
set_option maxRecDepth 20000 in
theorem ml_X12_387 : Cond.methodLink RX12 387 yX12_bits ∈ jtbl := jt8 180 rfl rfl
set_option maxRecDepth 20000 in
theorem ml_X12_390 : Cond.methodLink RX12 390 yX12_cover ∈ jtbl := jt8 176 rfl rfl
set_option maxRecDepth 20000 in
theorem ml_X12_394 : Cond.methodLink RX12 394 yX12_findCovers ∈ jtbl := jt8 160 rfl rfl
set_option maxRecDepth 20000 in
theorem ml_X12_397 : Cond.methodLink RX12 397 yX12_allCells ∈ jtbl := jt8 168 rfl rfl
set_option maxRecDepth 20000 in
theorem ml_X12_400 : Cond.methodLink RX12 400 yX12_leastCover ∈ jtbl := jt8 172 rfl rfl
set_option maxRecDepth 20000 in
theorem ml_X12_403 : Cond.methodLink RX12 403 yX12_cheapestCost ∈ jtbl := jt8 156 rfl rfl
set_option maxRecDepth 20000 in
theorem ml_X12_406 : Cond.methodLink RX12 406 yX12_fraction ∈ jtbl := jt8 187 rfl rfl
set_option maxRecDepth 20000 in
theorem ml_X12_412 : Cond.methodLink RX12 412 yX12_townsWithout ∈ jtbl := jt8 202 rfl rfl
set_option maxRecDepth 20000 in
theorem ml_X12_415 : Cond.methodLink RX12 415 yX12_askAsSeen ∈ jtbl := jt8 223 rfl rfl
set_option maxRecDepth 20000 in
theorem ml_X12_418 : Cond.methodLink RX12 418 yX12_seenIn ∈ jtbl := jt8 231 rfl rfl
set_option maxRecDepth 20000 in
theorem ml_X12_421 : Cond.methodLink RX12 421 yX12_parts ∈ jtbl := jt9 4 rfl rfl
set_option maxRecDepth 20000 in
theorem ml_X12_427 : Cond.methodLink RX12 427 yX12_watchAll ∈ jtbl := jt9 0 rfl rfl
set_option maxRecDepth 20000 in
theorem ml_X12_436 : Cond.methodLink RX12 436 yX12_isAsSeen ∈ jtbl := jt9 17 rfl rfl
set_option maxRecDepth 20000 in
theorem ml_X12_442 : Cond.methodLink RX12 442 yX12_readSign ∈ jtbl := jt9 49 rfl rfl
set_option maxRecDepth 20000 in
theorem ml_X12_445 : Cond.methodLink RX12 445 yX12_readName ∈ jtbl := jt9 53 rfl rfl
set_option maxRecDepth 20000 in
theorem ml_X12_448 : Cond.methodLink RX12 448 yX12_readTest ∈ jtbl := jt9 45 rfl rfl
set_option maxRecDepth 20000 in
theorem ml_X12_454 : Cond.methodLink RX12 454 yX12_readRest ∈ jtbl := jt9 41 rfl rfl
set_option maxRecDepth 20000 in
theorem ml_X12_457 : Cond.methodLink RX12 457 yX12_readStep ∈ jtbl := jt9 37 rfl rfl
set_option maxRecDepth 20000 in
theorem ml_X12_470 : Cond.methodLink RX12 470 yX12_cellOf ∈ jtbl := jt9 74 rfl rfl
set_option maxRecDepth 20000 in
theorem ml_X12_473 : Cond.methodLink RX12 473 yX12_compares ∈ jtbl := jt9 91 rfl rfl
set_option maxRecDepth 20000 in
theorem ml_X12_476 : Cond.methodLink RX12 476 yX12_seesSame ∈ jtbl := jt9 95 rfl rfl
set_option maxRecDepth 20000 in
theorem ml_X12_489 : Cond.methodLink RX12 489 yX12_change ∈ jtbl := jt9 78 rfl rfl
set_option maxRecDepth 20000 in
theorem ml_X12_492 : Cond.methodLink RX12 492 yX12_draw ∈ jtbl := jt9 82 rfl rfl
set_option maxRecDepth 20000 in
theorem ml_X12_495 : Cond.methodLink RX12 495 yX12_isSo ∈ jtbl := jt9 87 rfl rfl
set_option maxRecDepth 20000 in
theorem ml_X12_498 : Cond.methodLink RX12 498 yX12_doAll ∈ jtbl := jt9 66 rfl rfl
set_option maxRecDepth 20000 in
theorem ml_X12_501 : Cond.methodLink RX12 501 yX12_doOne ∈ jtbl := jt9 70 rfl rfl
set_option maxRecDepth 20000 in
theorem ml_X12_506 : Cond.methodLink RX12 506 yX12_run ∈ jtbl := jt9 62 rfl rfl
set_option maxRecDepth 20000 in
theorem ml_X12_517 : Cond.methodLink RX12 517 yX12_copy ∈ jtbl := jt9 112 rfl rfl
set_option maxRecDepth 20000 in
theorem ml_J0_335 : Cond.methodLink RJ0 335 yJ0_coder_7d493 ∈ jtbl := jt1 132 rfl rfl
set_option maxRecDepth 20000 in
theorem ml_J0_492 : Cond.methodLink RJ0 492 yJ0_isLatin1_aae02 ∈ jtbl := jt1 142 rfl rfl
set_option maxRecDepth 20000 in
theorem ml_J0_495 : Cond.methodLink RJ0 495 yJ1_charAt_3b067 ∈ jtbl := jt1 146 rfl rfl
set_option maxRecDepth 20000 in
theorem ml_J0_498 : Cond.methodLink RJ0 498 yJ2_charAt_3b067 ∈ jtbl := jt1 157 rfl rfl
set_option maxRecDepth 20000 in
theorem ml_J0_1059 : Cond.methodLink RJ0 1059 yJ3_checkIndex_8e157 ∈ jtbl := jt1 154 rfl rfl
set_option maxRecDepth 20000 in
theorem ml_J1_9 : Cond.methodLink RJ1 9 yJ0_checkIndex_df160 ∈ jtbl := jt1 149 rfl rfl
set_option maxRecDepth 20000 in
theorem ml_J2_48 : Cond.methodLink RJ2 48 yJ2_length_9d52b ∈ jtbl := jt1 163 rfl rfl
set_option maxRecDepth 20000 in
theorem ml_J2_67 : Cond.methodLink RJ2 67 yJ2_checkIndex_2214a ∈ jtbl := jt1 160 rfl rfl
set_option maxRecDepth 20000 in
theorem ml_J2_71 : Cond.methodLink RJ2 71 yJ2_getChar_3b067 ∈ jtbl := jt1 167 rfl rfl
set_option maxRecDepth 20000 in
theorem ml_J2_414 : Cond.methodLink RJ2 414 yJ0_checkIndex_df160 ∈ jtbl := jt1 166 rfl rfl
set_option maxRecDepth 20000 in
theorem mn_X9_36 : Cond.methodLinkNest RX9 36 yX11_isHeight "NineSights" ∈ jnst := List.mem_filter.mpr ⟨jtm4 (List.mem_of_getElem? (i := 166) rfl), rfl⟩
set_option maxRecDepth 20000 in
theorem kc_X2_31 : Cond.constant RX2 31 (1000000 : Int32) ∈ jtbl := jt6 44 rfl rfl
set_option maxRecDepth 20000 in
theorem kc_X2_86 : Cond.constant RX2 86 (65536 : Int32) ∈ jtbl := jt6 67 rfl rfl
set_option maxRecDepth 20000 in
theorem kc_X12_463 : Cond.constant RX12 463 (65536 : Int32) ∈ jtbl := jt9 86 rfl rfl
set_option maxRecDepth 20000 in
theorem kc_J6_264 : Cond.constant RJ6 264 (65536 : Int32) ∈ jtbl := jt5 81 rfl rfl
set_option maxRecDepth 20000 in
theorem kc_J6_265 : Cond.constant RJ6 265 (1431655765 : Int32) ∈ jtbl := jt5 58 rfl rfl
set_option maxRecDepth 20000 in
theorem kc_J6_266 : Cond.constant RJ6 266 (858993459 : Int32) ∈ jtbl := jt5 59 rfl rfl
set_option maxRecDepth 20000 in
theorem kc_J6_267 : Cond.constant RJ6 267 (252645135 : Int32) ∈ jtbl := jt5 60 rfl rfl
set_option maxRecDepth 20000 in
theorem kl_X11_414 : Cond.constantLong RX11 414 (99 : Int64) ∈ jtbl := jt4 152 rfl rfl
set_option maxRecDepth 20000 in
theorem kl_X1_48 : Cond.constantLong RX1 48 (1152921504606846976 : Int64) ∈ jtbl := jt5 65 rfl rfl
set_option maxRecDepth 20000 in
theorem kl_X1_104 : Cond.constantLong RX1 104 (1000007 : Int64) ∈ jtbl := jt5 141 rfl rfl
set_option maxRecDepth 20000 in
theorem kl_L_32 : Cond.constantLong RL 32 (4294967295 : Int64) ∈ jtbl := jt9 120 rfl rfl
set_option maxRecDepth 20000 in
theorem kl_X12_112 : Cond.constantLong RX12 112 (-1 : Int64) ∈ jtbl := jt7 71 rfl rfl
set_option maxRecDepth 20000 in
theorem kl_X12_114 : Cond.constantLong RX12 114 (3 : Int64) ∈ jtbl := jt7 116 rfl rfl
set_option maxRecDepth 20000 in
theorem kl_X12_141 : Cond.constantLong RX12 141 (32 : Int64) ∈ jtbl := jt7 107 rfl rfl
set_option maxRecDepth 20000 in
theorem kl_X12_143 : Cond.constantLong RX12 143 (96 : Int64) ∈ jtbl := jt7 108 rfl rfl
set_option maxRecDepth 20000 in
theorem kl_X12_165 : Cond.constantLong RX12 165 (101 : Int64) ∈ jtbl := jt7 178 rfl rfl
set_option maxRecDepth 20000 in
theorem kl_X12_277 : Cond.constantLong RX12 277 (27 : Int64) ∈ jtbl := jt7 117 rfl rfl
set_option maxRecDepth 20000 in
theorem kl_X12_279 : Cond.constantLong RX12 279 (53 : Int64) ∈ jtbl := jt7 121 rfl rfl
set_option maxRecDepth 20000 in
theorem kl_X12_281 : Cond.constantLong RX12 281 (77 : Int64) ∈ jtbl := jt7 122 rfl rfl
set_option maxRecDepth 20000 in
theorem kl_X12_314 : Cond.constantLong RX12 314 (2 : Int64) ∈ jtbl := jt8 27 rfl rfl
set_option maxRecDepth 20000 in
theorem kl_X12_325 : Cond.constantLong RX12 325 (7 : Int64) ∈ jtbl := jt8 64 rfl rfl
set_option maxRecDepth 20000 in
theorem kl_X12_330 : Cond.constantLong RX12 330 (99 : Int64) ∈ jtbl := jt8 77 rfl rfl
set_option maxRecDepth 20000 in
theorem kl_X12_410 : Cond.constantLong RX12 410 (1000007 : Int64) ∈ jtbl := jt8 206 rfl rfl
set_option maxRecDepth 20000 in
theorem kl_X12_425 : Cond.constantLong RX12 425 (4 : Int64) ∈ jtbl := jt8 239 rfl rfl
set_option maxRecDepth 20000 in
theorem kl_X12_431 : Cond.constantLong RX12 431 (9 : Int64) ∈ jtbl := jt9 12 rfl rfl
set_option maxRecDepth 20000 in
theorem kl_X12_504 : Cond.constantLong RX12 504 (9999 : Int64) ∈ jtbl := jt9 61 rfl rfl
set_option maxRecDepth 20000 in
theorem kl_X12_512 : Cond.constantLong RX12 512 (30 : Int64) ∈ jtbl := jt9 107 rfl rfl
set_option maxRecDepth 20000 in
theorem ac_X11_124 : Cond.methodLink RX11 124 arraycopyName ∈ jtbl := jt3 135 rfl rfl
set_option maxRecDepth 20000 in
theorem ac_X0_91 : Cond.methodLink RX0 91 arraycopyName ∈ jtbl := jt6 5 rfl rfl
set_option maxRecDepth 20000 in
theorem ac_X3_44 : Cond.methodLink RX3 44 arraycopyName ∈ jtbl := jt4 93 rfl rfl
set_option maxRecDepth 20000 in
theorem ac_X5_63 : Cond.methodLink RX5 63 arraycopyName ∈ jtbl := jt4 18 rfl rfl
set_option maxRecDepth 20000 in
theorem ac_X8_40 : Cond.methodLink RX8 40 arraycopyName ∈ jtbl := jt4 221 rfl rfl
set_option maxRecDepth 20000 in
theorem ac_X10_36 : Cond.methodLink RX10 36 arraycopyName ∈ jtbl := jt4 19 rfl rfl
set_option maxRecDepth 20000 in
theorem ac_n : Cond.native arraycopyName ∈ jtbl := jt3 137 rfl rfl
set_option maxRecDepth 20000 in
theorem ac_s : Cond.static arraycopyName ∈ jtbl := jt3 136 rfl rfl
set_option maxRecDepth 20000 in
theorem ac_i : Cond.initialized "java/lang/System" ∈ jtbl := jt1 19 rfl rfl
