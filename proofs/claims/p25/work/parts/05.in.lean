theorem goodIn_q {big : List Cond} (ws : List Cond) (ps : List Nat) (hp : ws = ps.filterMap (fun i => big[i]?)) (h : ws.all goodWord = true) : ∀ w ∈ ws, w ∈ big ∧ goodWord w = true := by
  intro w hw
  have h1 := List.all_eq_true.mp h w hw
  rw [hp] at hw
  obtain ⟨i, -, hi⟩ := List.mem_filterMap.mp hw
  exact ⟨List.mem_of_getElem? hi, h1⟩
set_option maxRecDepth 20000 in
theorem inX0 : ∀ w ∈ u_ws RX0 TX0 19, w ∈ qw_tbl := fun w h => List.mem_filter.mpr (goodIn_q (big := lw_tbl) (u_ws RX0 TX0 19) [193, 195, 197, 199, 201, 203, 205, 207, 209, 211, 213, 215, 217, 219, 221, 223, 225, 227, 229] rfl rfl w h)
set_option maxRecDepth 20000 in
theorem inX1 : ∀ w ∈ u_ws RX1 TX1 4, w ∈ qw_tbl := fun w h => List.mem_filter.mpr (goodIn_q (big := lw_tbl) (u_ws RX1 TX1 4) [829, 831, 833, 835] rfl rfl w h)
set_option maxRecDepth 20000 in
theorem inX2 : ∀ w ∈ u_ws RX2 TX2 5, w ∈ qw_tbl := fun w h => List.mem_filter.mpr (goodIn_q (big := lw_tbl) (u_ws RX2 TX2 5) [432, 434, 436, 438, 440] rfl rfl w h)
set_option maxRecDepth 20000 in
theorem inX3 : ∀ w ∈ u_ws RX3 TX3 13, w ∈ qw_tbl := fun w h => List.mem_filter.mpr (goodIn_q (big := lw_tbl) (u_ws RX3 TX3 13) [394, 396, 398, 400, 402, 404, 406, 408, 410, 412, 414, 416, 418] rfl rfl w h)
set_option maxRecDepth 20000 in
theorem inX4 : ∀ w ∈ u_ws RX4 TX4 2, w ∈ qw_tbl := fun w h => List.mem_filter.mpr (goodIn_q (big := lw_tbl) (u_ws RX4 TX4 2) [517, 519] rfl rfl w h)
set_option maxRecDepth 20000 in
theorem inX5 : ∀ w ∈ u_ws RX5 TX5 6, w ∈ qw_tbl := fun w h => List.mem_filter.mpr (goodIn_q (big := lw_tbl) (u_ws RX5 TX5 6) [279, 281, 283, 285, 287, 289] rfl rfl w h)
set_option maxRecDepth 20000 in
theorem inX6 : ∀ w ∈ u_ws RX6 TX6 10, w ∈ qw_tbl := fun w h => List.mem_filter.mpr (goodIn_q (big := lw_tbl) (u_ws RX6 TX6 10) [354, 356, 358, 360, 362, 364, 366, 368, 370, 372] rfl rfl w h)
set_option maxRecDepth 20000 in
theorem inX7 : ∀ w ∈ u_ws RX7 TX7 5, w ∈ qw_tbl := fun w h => List.mem_filter.mpr (goodIn_q (big := lw_tbl) (u_ws RX7 TX7 5) [539, 541, 543, 545, 547] rfl rfl w h)
set_option maxRecDepth 20000 in
theorem inX8 : ∀ w ∈ u_ws RX8 TX8 7, w ∈ qw_tbl := fun w h => List.mem_filter.mpr (goodIn_q (big := lw_tbl) (u_ws RX8 TX8 7) [251, 253, 255, 257, 259, 261, 263] rfl rfl w h)
set_option maxRecDepth 20000 in
theorem inX9 : ∀ w ∈ u_ws RX9 TX9 11, w ∈ qw_tbl := fun w h => List.mem_filter.mpr (goodIn_q (big := lw_tbl) (u_ws RX9 TX9 11) [314, 316, 318, 320, 322, 324, 326, 328, 330, 332, 334] rfl rfl w h)
set_option maxRecDepth 20000 in
theorem inX10 : ∀ w ∈ u_ws RX10 TX10 15, w ∈ qw_tbl := fun w h => List.mem_filter.mpr (goodIn_q (big := lw_tbl) (u_ws RX10 TX10 15) [635, 637, 639, 641, 643, 645, 647, 649, 651, 653, 655, 657, 659, 661, 663] rfl rfl w h)
set_option maxRecDepth 20000 in
theorem inX11 : ∀ w ∈ u_ws RX11 TX11 9, w ∈ qw_tbl := fun w h => List.mem_filter.mpr (goodIn_q (big := lw_tbl) (u_ws RX11 TX11 9) [452, 454, 456, 458, 460, 462, 464, 466, 468] rfl rfl w h)
set_option maxRecDepth 20000 in
theorem inX12 : ∀ w ∈ u_ws RX12 TX12 81, w ∈ qw_tbl := fun w h => List.mem_filter.mpr (goodIn_q (big := lw_tbl) (u_ws RX12 TX12 81) [1413, 1415, 1417, 1419, 1421, 1423, 1425, 1427, 1429, 1431, 1433, 1435, 1437, 1439, 1441, 1443, 1445, 1447, 1449, 1451, 1453, 1455, 1457, 1459, 1461, 1463, 1465, 1467, 1469, 1471, 1473, 1475, 1477, 1479, 1481, 1483, 1485, 1487, 1489, 1491, 1493, 1495, 1497, 1499, 1501, 1503, 1505, 1507, 1509, 1511, 1513, 1515, 1517, 1519, 1521, 1523, 1525, 1527, 1529, 1531, 1533, 1535, 1537, 1539, 1541, 1543, 1545, 1547, 1549, 1551, 1553, 1555, 1557, 1559, 1561, 1563, 1565, 1567, 1569, 1571, 1573] rfl rfl w h)
