theorem goodIn_q {big : List Cond} (ws : List Cond) (ps : List Nat) (hp : ws = ps.filterMap (fun i => big[i]?)) (h : ws.all goodWord = true) : ∀ w ∈ ws, w ∈ big ∧ goodWord w = true := by
  intro w hw
  have h1 := List.all_eq_true.mp h w hw
  rw [hp] at hw
  obtain ⟨i, -, hi⟩ := List.mem_filterMap.mp hw
  exact ⟨List.mem_of_getElem? hi, h1⟩
set_option maxRecDepth 20000 in
theorem inX0 : ∀ w ∈ u_ws RX0 TX0 19, w ∈ qw_tbl := fun w h => List.mem_filter.mpr (goodIn_q (big := lw_tbl) (u_ws RX0 TX0 19) [192, 194, 196, 198, 200, 202, 204, 206, 208, 210, 212, 214, 216, 218, 220, 222, 224, 226, 228] rfl rfl w h)
set_option maxRecDepth 20000 in
theorem inX1 : ∀ w ∈ u_ws RX1 TX1 4, w ∈ qw_tbl := fun w h => List.mem_filter.mpr (goodIn_q (big := lw_tbl) (u_ws RX1 TX1 4) [826, 828, 830, 832] rfl rfl w h)
set_option maxRecDepth 20000 in
theorem inX2 : ∀ w ∈ u_ws RX2 TX2 5, w ∈ qw_tbl := fun w h => List.mem_filter.mpr (goodIn_q (big := lw_tbl) (u_ws RX2 TX2 5) [425, 427, 429, 431, 433] rfl rfl w h)
set_option maxRecDepth 20000 in
theorem inX3 : ∀ w ∈ u_ws RX3 TX3 12, w ∈ qw_tbl := fun w h => List.mem_filter.mpr (goodIn_q (big := lw_tbl) (u_ws RX3 TX3 12) [389, 391, 393, 395, 397, 399, 401, 403, 405, 407, 409, 411] rfl rfl w h)
set_option maxRecDepth 20000 in
theorem inX4 : ∀ w ∈ u_ws RX4 TX4 2, w ∈ qw_tbl := fun w h => List.mem_filter.mpr (goodIn_q (big := lw_tbl) (u_ws RX4 TX4 2) [510, 512] rfl rfl w h)
set_option maxRecDepth 20000 in
theorem inX5 : ∀ w ∈ u_ws RX5 TX5 6, w ∈ qw_tbl := fun w h => List.mem_filter.mpr (goodIn_q (big := lw_tbl) (u_ws RX5 TX5 6) [278, 280, 282, 284, 286, 288] rfl rfl w h)
set_option maxRecDepth 20000 in
theorem inX6 : ∀ w ∈ u_ws RX6 TX6 10, w ∈ qw_tbl := fun w h => List.mem_filter.mpr (goodIn_q (big := lw_tbl) (u_ws RX6 TX6 10) [350, 352, 354, 356, 358, 360, 362, 364, 366, 368] rfl rfl w h)
set_option maxRecDepth 20000 in
theorem inX7 : ∀ w ∈ u_ws RX7 TX7 5, w ∈ qw_tbl := fun w h => List.mem_filter.mpr (goodIn_q (big := lw_tbl) (u_ws RX7 TX7 5) [532, 534, 536, 538, 540] rfl rfl w h)
set_option maxRecDepth 20000 in
theorem inX8 : ∀ w ∈ u_ws RX8 TX8 7, w ∈ qw_tbl := fun w h => List.mem_filter.mpr (goodIn_q (big := lw_tbl) (u_ws RX8 TX8 7) [250, 252, 254, 256, 258, 260, 262] rfl rfl w h)
set_option maxRecDepth 20000 in
theorem inX9 : ∀ w ∈ u_ws RX9 TX9 10, w ∈ qw_tbl := fun w h => List.mem_filter.mpr (goodIn_q (big := lw_tbl) (u_ws RX9 TX9 10) [312, 314, 316, 318, 320, 322, 324, 326, 328, 330] rfl rfl w h)
set_option maxRecDepth 20000 in
theorem inX10 : ∀ w ∈ u_ws RX10 TX10 15, w ∈ qw_tbl := fun w h => List.mem_filter.mpr (goodIn_q (big := lw_tbl) (u_ws RX10 TX10 15) [632, 634, 636, 638, 640, 642, 644, 646, 648, 650, 652, 654, 656, 658, 660] rfl rfl w h)
set_option maxRecDepth 20000 in
theorem inX11 : ∀ w ∈ u_ws RX11 TX11 9, w ∈ qw_tbl := fun w h => List.mem_filter.mpr (goodIn_q (big := lw_tbl) (u_ws RX11 TX11 9) [445, 447, 449, 451, 453, 455, 457, 459, 461] rfl rfl w h)
set_option maxRecDepth 20000 in
theorem inX12 : ∀ w ∈ u_ws RX12 TX12 81, w ∈ qw_tbl := fun w h => List.mem_filter.mpr (goodIn_q (big := lw_tbl) (u_ws RX12 TX12 81) [1410, 1412, 1414, 1416, 1418, 1420, 1422, 1424, 1426, 1428, 1430, 1432, 1434, 1436, 1438, 1440, 1442, 1444, 1446, 1448, 1450, 1452, 1454, 1456, 1458, 1460, 1462, 1464, 1466, 1468, 1470, 1472, 1474, 1476, 1478, 1480, 1482, 1484, 1486, 1488, 1490, 1492, 1494, 1496, 1498, 1500, 1502, 1504, 1506, 1508, 1510, 1512, 1514, 1516, 1518, 1520, 1522, 1524, 1526, 1528, 1530, 1532, 1534, 1536, 1538, 1540, 1542, 1544, 1546, 1548, 1550, 1552, 1554, 1556, 1558, 1560, 1562, 1564, 1566, 1568, 1570] rfl rfl w h)
