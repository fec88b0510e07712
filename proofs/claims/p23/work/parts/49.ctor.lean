set_option maxHeartbeats 8000000 in
set_option maxRecDepth 100000 in
theorem k_X4_init (l : Launch) (E : qE) (A : Nat → Prop) (T : Nat) (u : qS) (h0 dd : Nat) (x : Int32) (y : Int32) (hd : u.2.2.2.2[dd]? = some (h0, .inr (4, [.int 0, .int 0]))) : Met l yX4_init (uws yX4_init cX4_init 3 none) (qR 1 0 0) (qPc E A T u [.ref h0, .int x, .int y]) (qQv E A T (fun u1 => u1 = qsX u (u.2.2.2.2.set dd (h0, .inr (4, [.int x, .int y])) ++ []))) 0 0 A := by
  refine q_metI (own := RX4) (f := 1) [.ref h0, .int x, .int y] (by decide) (Nat.le_of_ble_eq_true rfl) rfl rfl ?_
  intro p0 e0 s0 m0 bl0 me0 cd0 ls hF hr hlocks hin hU hS hA hl
  have hdd : dd < u.2.2.2.2.length := (List.getElem?_eq_some_iff.mp hd).1
  have hl : lv_has ls 3 [(0, .ref h0), (1, .int x), (2, .int y)] := hl
  have hU : qH E A T (qsX u (u.2.2.2.2.set dd (h0, .inr (4, [.int 0, .int 0])) ++ [])) s0 s0.heap := by rw [q_c0 hd]; exact hU
  refine lv_aload_n hF.1 hF.2.1 dX4_init_0 rfl (lv_at hl 0 rfl) ?_
  refine W.objInit hF.1 hF.2.1 hF.2.2.2.1 (hF.2.2.2.2 _ w_507) (hF.2.2.2.2 _ w_126) (hF.2.2.2.2 _ w_127) rfl (by rw [hF.2.2.1]; exact hl.1) rfl dX4_init_1 (Nat.le_of_ble_eq_true rfl) (Nat.le_of_ble_eq_true rfl) ?_
  refine W.eq (g2 := F0 m0 4 ls []) rfl ?_
  refine lv_aload_n hF.1 hF.2.1 dX4_init_4 rfl (lv_at hl 0 rfl) ?_
  refine lv_iload_n hF.1 hF.2.1 dX4_init_5 rfl (lv_at hl 1 rfl) ?_
  refine c_put (fs' := [.int x, .int 0]) hF hU hS hdd dX4_init_6 0 rfl inX4 tyX4 tyX4_ok nmX4 (by decide) w_508 rfl (Or.inr ⟨rfl, hin, rfl⟩) rfl rfl (Nat.le_of_ble_eq_true rfl) rfl (fun H locs hU hS => ?_)
  refine lv_aload_n hF.1 hF.2.1 dX4_init_9 rfl (lv_at hl 0 rfl) ?_
  refine lv_iload_n hF.1 hF.2.1 dX4_init_10 rfl (lv_at hl 2 rfl) ?_
  refine c_put (fs' := [.int x, .int y]) hF hU hS hdd dX4_init_11 1 rfl inX4 tyX4 tyX4_ok nmX4 (by decide) w_509 rfl (Or.inr ⟨rfl, hin, rfl⟩) rfl rfl (Nat.le_of_ble_eq_true rfl) rfl (fun H locs hU hS => ?_)
  exact q_vret hF hr hlocks hU hS dX4_init_14 rfl
set_option maxHeartbeats 8000000 in
set_option maxRecDepth 100000 in
theorem k_X7_init (l : Launch) (E : qE) (A : Nat → Prop) (T : Nat) (u : qS) (h0 dd : Nat) (a1 : Nat) (ch : Int32) (fr : Int32) (to : Int32) (rc : Int32) (hnar : narrow .boolean (.int rc) = .int rc) (hfit : fits .boolean (.int rc) = true) (hd : u.2.2.2.2[dd]? = some (h0, .inr (7, [.null, .int 0, .int 0, .int 0, .int 0]))) : Met l yX7_init (uws yX7_init cX7_init 6 none) (qR 1 0 0) (qPc E A T u [.ref h0, .ref a1, .int ch, .int fr, .int to, .int rc]) (qQv E A T (fun u1 => u1 = qsX u (u.2.2.2.2.set dd (h0, .inr (7, [.ref a1, .int ch, .int fr, .int to, .int rc])) ++ []))) 0 0 A := by
  refine q_metI (own := RX7) (f := 1) [.ref h0, .ref a1, .int ch, .int fr, .int to, .int rc] (by decide) (Nat.le_of_ble_eq_true rfl) rfl rfl ?_
  intro p0 e0 s0 m0 bl0 me0 cd0 ls hF hr hlocks hin hU hS hA hl
  have hdd : dd < u.2.2.2.2.length := (List.getElem?_eq_some_iff.mp hd).1
  have hl : lv_has ls 6 [(0, .ref h0), (1, .ref a1), (2, .int ch), (3, .int fr), (4, .int to), (5, .int rc)] := hl
  have hU : qH E A T (qsX u (u.2.2.2.2.set dd (h0, .inr (7, [.null, .int 0, .int 0, .int 0, .int 0])) ++ [])) s0 s0.heap := by rw [q_c0 hd]; exact hU
  refine lv_aload_n hF.1 hF.2.1 dX7_init_0 rfl (lv_at hl 0 rfl) ?_
  refine W.objInit hF.1 hF.2.1 hF.2.2.2.1 (hF.2.2.2.2 _ w_518) (hF.2.2.2.2 _ w_126) (hF.2.2.2.2 _ w_127) rfl (by rw [hF.2.2.1]; exact hl.1) rfl dX7_init_1 (Nat.le_of_ble_eq_true rfl) (Nat.le_of_ble_eq_true rfl) ?_
  refine W.eq (g2 := F0 m0 4 ls []) rfl ?_
  refine lv_aload_n hF.1 hF.2.1 dX7_init_4 rfl (lv_at hl 0 rfl) ?_
  refine lv_aload_n hF.1 hF.2.1 dX7_init_5 rfl (lv_at hl 1 rfl) ?_
  refine c_put (fs' := [.ref a1, .int 0, .int 0, .int 0, .int 0]) hF hU hS hdd dX7_init_6 0 rfl inX7 tyX7 tyX7_ok nmX7 (by decide) w_519 rfl (Or.inr ⟨rfl, hin, rfl⟩) rfl rfl (Nat.le_of_ble_eq_true rfl) rfl (fun H locs hU hS => ?_)
  refine lv_aload_n hF.1 hF.2.1 dX7_init_9 rfl (lv_at hl 0 rfl) ?_
  refine lv_iload_n hF.1 hF.2.1 dX7_init_10 rfl (lv_at hl 2 rfl) ?_
  refine c_put (fs' := [.ref a1, .int ch, .int 0, .int 0, .int 0]) hF hU hS hdd dX7_init_11 1 rfl inX7 tyX7 tyX7_ok nmX7 (by decide) w_522 rfl (Or.inr ⟨rfl, hin, rfl⟩) rfl rfl (Nat.le_of_ble_eq_true rfl) rfl (fun H locs hU hS => ?_)
  refine lv_aload_n hF.1 hF.2.1 dX7_init_14 rfl (lv_at hl 0 rfl) ?_
  refine lv_iload_n hF.1 hF.2.1 dX7_init_15 rfl (lv_at hl 3 rfl) ?_
  refine c_put (fs' := [.ref a1, .int ch, .int fr, .int 0, .int 0]) hF hU hS hdd dX7_init_16 2 rfl inX7 tyX7 tyX7_ok nmX7 (by decide) w_526 rfl (Or.inr ⟨rfl, hin, rfl⟩) rfl rfl (Nat.le_of_ble_eq_true rfl) rfl (fun H locs hU hS => ?_)
  refine lv_aload_n hF.1 hF.2.1 dX7_init_19 rfl (lv_at hl 0 rfl) ?_
  refine lv_iload hF.1 hF.2.1 dX7_init_20 (lv_at hl 4 rfl) ?_
  refine c_put (fs' := [.ref a1, .int ch, .int fr, .int to, .int 0]) hF hU hS hdd dX7_init_22 3 rfl inX7 tyX7 tyX7_ok nmX7 (by decide) w_528 rfl (Or.inr ⟨rfl, hin, rfl⟩) rfl rfl (Nat.le_of_ble_eq_true rfl) rfl (fun H locs hU hS => ?_)
  refine lv_aload_n hF.1 hF.2.1 dX7_init_25 rfl (lv_at hl 0 rfl) ?_
  refine lv_iload hF.1 hF.2.1 dX7_init_26 (lv_at hl 5 rfl) ?_
  refine c_put (fs' := [.ref a1, .int ch, .int fr, .int to, .int rc]) hF hU hS hdd dX7_init_28 4 rfl inX7 tyX7 tyX7_ok nmX7 (by decide) w_530 rfl (Or.inr ⟨rfl, hin, rfl⟩) hnar hfit (Nat.le_of_ble_eq_true rfl) rfl (fun H locs hU hS => ?_)
  exact q_vret hF hr hlocks hU hS dX7_init_31 rfl
set_option maxHeartbeats 8000000 in
set_option maxRecDepth 100000 in
theorem k_X1_init (l : Launch) (E : qE) (A : Nat → Prop) (T : Nat) (u : qS) (h0 dd : Nat) (x : Int32) (y : Int32) (z : Int32) (a1 : Nat) (hd : u.2.2.2.2[dd]? = some (h0, .inr (1, [.int 0, .int 0, .int 0, .null]))) : Met l yX1_init (uws yX1_init cX1_init 5 none) (qR 1 0 0) (qPc E A T u [.ref h0, .int x, .int y, .int z, .ref a1]) (qQv E A T (fun u1 => u1 = qsX u (u.2.2.2.2.set dd (h0, .inr (1, [.int x, .int y, .int z, .ref a1])) ++ []))) 0 0 A := by
  refine q_metI (own := RX1) (f := 1) [.ref h0, .int x, .int y, .int z, .ref a1] (by decide) (Nat.le_of_ble_eq_true rfl) rfl rfl ?_
  intro p0 e0 s0 m0 bl0 me0 cd0 ls hF hr hlocks hin hU hS hA hl
  have hdd : dd < u.2.2.2.2.length := (List.getElem?_eq_some_iff.mp hd).1
  have hl : lv_has ls 5 [(0, .ref h0), (1, .int x), (2, .int y), (3, .int z), (4, .ref a1)] := hl
  have hU : qH E A T (qsX u (u.2.2.2.2.set dd (h0, .inr (1, [.int 0, .int 0, .int 0, .null])) ++ [])) s0 s0.heap := by rw [q_c0 hd]; exact hU
  refine lv_aload_n hF.1 hF.2.1 dX1_init_0 rfl (lv_at hl 0 rfl) ?_
  refine W.objInit hF.1 hF.2.1 hF.2.2.2.1 (hF.2.2.2.2 _ w_817) (hF.2.2.2.2 _ w_126) (hF.2.2.2.2 _ w_127) rfl (by rw [hF.2.2.1]; exact hl.1) rfl dX1_init_1 (Nat.le_of_ble_eq_true rfl) (Nat.le_of_ble_eq_true rfl) ?_
  refine W.eq (g2 := F0 m0 4 ls []) rfl ?_
  refine lv_aload_n hF.1 hF.2.1 dX1_init_4 rfl (lv_at hl 0 rfl) ?_
  refine lv_iload_n hF.1 hF.2.1 dX1_init_5 rfl (lv_at hl 1 rfl) ?_
  refine c_put (fs' := [.int x, .int 0, .int 0, .null]) hF hU hS hdd dX1_init_6 0 rfl inX1 tyX1 tyX1_ok nmX1 (by decide) w_818 rfl (Or.inr ⟨rfl, hin, rfl⟩) rfl rfl (Nat.le_of_ble_eq_true rfl) rfl (fun H locs hU hS => ?_)
  refine lv_aload_n hF.1 hF.2.1 dX1_init_9 rfl (lv_at hl 0 rfl) ?_
  refine lv_iload_n hF.1 hF.2.1 dX1_init_10 rfl (lv_at hl 2 rfl) ?_
  refine c_put (fs' := [.int x, .int y, .int 0, .null]) hF hU hS hdd dX1_init_11 1 rfl inX1 tyX1 tyX1_ok nmX1 (by decide) w_820 rfl (Or.inr ⟨rfl, hin, rfl⟩) rfl rfl (Nat.le_of_ble_eq_true rfl) rfl (fun H locs hU hS => ?_)
  refine lv_aload_n hF.1 hF.2.1 dX1_init_14 rfl (lv_at hl 0 rfl) ?_
  refine lv_iload_n hF.1 hF.2.1 dX1_init_15 rfl (lv_at hl 3 rfl) ?_
  refine c_put (fs' := [.int x, .int y, .int z, .null]) hF hU hS hdd dX1_init_16 2 rfl inX1 tyX1 tyX1_ok nmX1 (by decide) w_822 rfl (Or.inr ⟨rfl, hin, rfl⟩) rfl rfl (Nat.le_of_ble_eq_true rfl) rfl (fun H locs hU hS => ?_)
  refine lv_aload_n hF.1 hF.2.1 dX1_init_19 rfl (lv_at hl 0 rfl) ?_
  refine lv_aload hF.1 hF.2.1 dX1_init_20 (lv_at hl 4 rfl) ?_
  refine c_put (fs' := [.int x, .int y, .int z, .ref a1]) hF hU hS hdd dX1_init_22 3 rfl inX1 tyX1 tyX1_ok nmX1 (by decide) w_824 rfl (Or.inr ⟨rfl, hin, rfl⟩) rfl rfl (Nat.le_of_ble_eq_true rfl) rfl (fun H locs hU hS => ?_)
  exact q_vret hF hr hlocks hU hS dX1_init_25 rfl
set_option maxHeartbeats 8000000 in
set_option maxRecDepth 100000 in
theorem k_X10_init (l : Launch) (E : qE) (A : Nat → Prop) (T : Nat) (u : qS) (h0 dd : Nat) (x : Int32) (y : Int32) (hd : u.2.2.2.2[dd]? = some (h0, .inr (10, [.int 0, .int 0, .int 0, .int 0, .int 0, .int 0, .int 0, .int 0, .int 0, .int 0, .int 0, .int 0, .int 0, .int 0, .int 0]))) : Met l yX10_init (uws yX10_init cX10_init 3 none) (qR 1 0 0) (qPc E A T u [.ref h0, .int x, .int y]) (qQv E A T (fun u1 => u1 = qsX u (u.2.2.2.2.set dd (h0, .inr (10, [.int x, .int y, .int 0, .int 0, .int 0, .int 0, .int 0, .int 0, .int 0, .int 0, .int 0, .int 0, .int 0, .int 0, .int 0])) ++ []))) 0 0 A := by
  refine q_metI (own := RX10) (f := 1) [.ref h0, .int x, .int y] (by decide) (Nat.le_of_ble_eq_true rfl) rfl rfl ?_
  intro p0 e0 s0 m0 bl0 me0 cd0 ls hF hr hlocks hin hU hS hA hl
  have hdd : dd < u.2.2.2.2.length := (List.getElem?_eq_some_iff.mp hd).1
  have hl : lv_has ls 3 [(0, .ref h0), (1, .int x), (2, .int y)] := hl
  have hU : qH E A T (qsX u (u.2.2.2.2.set dd (h0, .inr (10, [.int 0, .int 0, .int 0, .int 0, .int 0, .int 0, .int 0, .int 0, .int 0, .int 0, .int 0, .int 0, .int 0, .int 0, .int 0])) ++ [])) s0 s0.heap := by rw [q_c0 hd]; exact hU
  refine lv_aload_n hF.1 hF.2.1 dX10_init_0 rfl (lv_at hl 0 rfl) ?_
  refine W.objInit hF.1 hF.2.1 hF.2.2.2.1 (hF.2.2.2.2 _ w_581) (hF.2.2.2.2 _ w_126) (hF.2.2.2.2 _ w_127) rfl (by rw [hF.2.2.1]; exact hl.1) rfl dX10_init_1 (Nat.le_of_ble_eq_true rfl) (Nat.le_of_ble_eq_true rfl) ?_
  refine W.eq (g2 := F0 m0 4 ls []) rfl ?_
  refine lv_aload_n hF.1 hF.2.1 dX10_init_4 rfl (lv_at hl 0 rfl) ?_
  refine lv_iload_n hF.1 hF.2.1 dX10_init_5 rfl (lv_at hl 1 rfl) ?_
  refine c_put (fs' := [.int x, .int 0, .int 0, .int 0, .int 0, .int 0, .int 0, .int 0, .int 0, .int 0, .int 0, .int 0, .int 0, .int 0, .int 0]) hF hU hS hdd dX10_init_6 0 rfl inX10 tyX10 tyX10_ok nmX10 (by decide) w_582 rfl (Or.inr ⟨rfl, hin, rfl⟩) rfl rfl (Nat.le_of_ble_eq_true rfl) rfl (fun H locs hU hS => ?_)
  refine lv_aload_n hF.1 hF.2.1 dX10_init_9 rfl (lv_at hl 0 rfl) ?_
  refine lv_iload_n hF.1 hF.2.1 dX10_init_10 rfl (lv_at hl 2 rfl) ?_
  refine c_put (fs' := [.int x, .int y, .int 0, .int 0, .int 0, .int 0, .int 0, .int 0, .int 0, .int 0, .int 0, .int 0, .int 0, .int 0, .int 0]) hF hU hS hdd dX10_init_11 1 rfl inX10 tyX10 tyX10_ok nmX10 (by decide) w_586 rfl (Or.inr ⟨rfl, hin, rfl⟩) rfl rfl (Nat.le_of_ble_eq_true rfl) rfl (fun H locs hU hS => ?_)
  exact q_vret hF hr hlocks hU hS dX10_init_14 rfl
