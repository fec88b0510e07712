theorem k_X11_buyer_r0 (x : Int32) (y : Int32) (b2_1 : (0 ≤ x ∧ x ≤ 99) ∧ (0 ≤ y ∧ y ≤ 99)) : (((0 ≤ x ∧ x ≤ 99) ∧ (0 ≤ y ∧ y ≤ 99)) ∧ (0 : Int32) = 0) ∨ (¬ ((0 ≤ x ∧ x ≤ 99) ∧ (0 ≤ y ∧ y ≤ 99)) ∧ (0 : Int32) = (-1)) := by
  first | rfl | (simp only [Int32.lt_iff_toInt_lt, Int32.le_iff_toInt_le, ← Int32.toInt_inj, Int32.zero_add, Int32.add_zero] at *; omega) | (simp only [Int32.lt_iff_toInt_lt, Int32.le_iff_toInt_le, ← Int32.toInt_inj, Int32.zero_add, Int32.add_zero] at *; done) | (simp only [Int32.lt_iff_toInt_lt, Int32.le_iff_toInt_le, ← Int32.toInt_inj, Int32.zero_add, Int32.add_zero] at *; simp at *; omega) | (simp at *; omega) | (simp_all; done)
theorem k_X11_buyer_r1 (x : Int32) (y : Int32) (b2_1 : ¬ ((0 ≤ x ∧ x ≤ 99) ∧ (0 ≤ y ∧ y ≤ 99))) : (((0 ≤ x ∧ x ≤ 99) ∧ (0 ≤ y ∧ y ≤ 99)) ∧ ((-1) : Int32) = 0) ∨ (¬ ((0 ≤ x ∧ x ≤ 99) ∧ (0 ≤ y ∧ y ≤ 99)) ∧ ((-1) : Int32) = (-1)) := by
  first | rfl | (simp only [Int32.lt_iff_toInt_lt, Int32.le_iff_toInt_le, ← Int32.toInt_inj, Int32.zero_add, Int32.add_zero] at *; omega) | (simp only [Int32.lt_iff_toInt_lt, Int32.le_iff_toInt_le, ← Int32.toInt_inj, Int32.zero_add, Int32.add_zero] at *; done) | (simp only [Int32.lt_iff_toInt_lt, Int32.le_iff_toInt_le, ← Int32.toInt_inj, Int32.zero_add, Int32.add_zero] at *; simp at *; omega) | (simp at *; omega) | (simp_all; done)
set_option maxHeartbeats 400000 in
set_option maxRecDepth 100000 in
theorem k_X11_buyer (l : Launch) (E : qE) (A : Nat → Prop) (u : qS) (x : Int32) (y : Int32) (h_buyerCount : u.1 9 = 0) : Met l yX11_buyer (uws yX11_buyer cX11_buyer 3 (some .int)) (qR 3 1 2) (qPc E A 0 u [.ref (E.2.2 1199), .int x, .int y]) (qQi E A 0 (fun r _ => (((0 ≤ x ∧ x ≤ 99) ∧ (0 ≤ y ∧ y ≤ 99)) ∧ r = 0) ∨ (¬ ((0 ≤ x ∧ x ≤ 99) ∧ (0 ≤ y ∧ y ≤ 99)) ∧ r = (-1)))) 1 2 A := by
  refine q_met (own := RX11) (f := 3) [.ref (E.2.2 1199), .int x, .int y] (by decide) (Nat.le_of_ble_eq_true rfl) rfl ?_
  intro p0 e0 s0 m0 bl0 me0 cd0 ls hF hr hlocks hU hS hA hl
  have hl : lv_has ls 3 [(0, .ref (E.2.2 1199)), (1, .int x), (2, .int y)] := hl
  refine lv_iload_n hF.1 hF.2.1 dX11_buyer_0 rfl (lv_at hl 1 rfl) ?_
  refine lv_iload_n hF.1 hF.2.1 dX11_buyer_1 rfl (lv_at hl 2 rfl) ?_
  have hM9 := (k_X11_isPlace l E A 0 u x y)
  have hR9 := q_runS (l := l) (e := e0) (below := bl0) (meth := me0) (R := qR 3 1 2) (cells := 0) (slots := 0) (st0 := [.int y, .int x]) (rest := []) hF hU hS hA 2 hM9 w_491 w_492 w_99 w_493 (by decide +kernel) ⟨Nat.le_of_ble_eq_true rfl, Nat.le_of_ble_eq_true rfl⟩ dX11_buyer_2 rfl hl.1 rfl (Nat.le_of_ble_eq_true rfl) ⟨Nat.le_of_ble_eq_true rfl, Nat.le_of_ble_eq_true rfl⟩
  refine q_calli hR9 hU.2.2.2 hS (fun r u1 H locs hw hU hS => ?_)
  obtain ⟨hu1, hw⟩ := hw
  rw [hu1] at hU
  rcases hw with ⟨rfl, b2_1⟩ | ⟨rfl, b2_1⟩
  · refine lv_if_eq (tgt := 20) hF.1 hF.2.1 dX11_buyer_5 (by decide) (fun h9 => absurd h9 (by decide)) (fun _ => ?_)
    refine lv_aload_n hF.1 hF.2.1 dX11_buyer_8 rfl (lv_at hl 0 rfl) ?_
    refine q_get (v := .ref (E.2.2 99)) hF hU dX11_buyer_9 0 11 0 1100 1199 rfl rfl rfl rfl inX11 (by decide) (by decide) w_436 rfl rfl ?_
    refine q_get (v := .int 0) hF hU dX11_buyer_12 1 0 9 9 99 rfl rfl rfl rfl inX0 (by decide) (by decide) w_167 rfl (congrArg Value.int h_buyerCount) ?_
    refine lv_bipush (v := 8) hF.1 hF.2.1 dX11_buyer_15 (by decide) ?_
    refine lv_icmp_lt (tgt := 22) hF.1 hF.2.1 dX11_buyer_17 (by decide) (fun _ => ?_) (fun h9 => absurd (by decide) h9)
    refine lv_aload_n hF.1 hF.2.1 dX11_buyer_22 rfl (lv_at hl 0 rfl) ?_
    refine q_get (v := .ref (E.2.2 99)) hF hU dX11_buyer_23 0 11 0 1100 1199 rfl rfl rfl rfl inX11 (by decide) (by decide) w_436 rfl rfl ?_
    refine q_get (v := .ref (E.2.2 1)) hF hU dX11_buyer_26 1 0 1 1 99 rfl rfl rfl rfl inX0 (by decide) (by decide) w_147 rfl rfl ?_
    refine lv_aload_n hF.1 hF.2.1 dX11_buyer_29 rfl (lv_at hl 0 rfl) ?_
    refine q_get (v := .ref (E.2.2 99)) hF hU dX11_buyer_30 0 11 0 1100 1199 rfl rfl rfl rfl inX11 (by decide) (by decide) w_436 rfl rfl ?_
    refine q_get (v := .int 0) hF hU dX11_buyer_33 1 0 9 9 99 rfl rfl rfl rfl inX0 (by decide) (by decide) w_167 rfl (congrArg Value.int h_buyerCount) ?_
    refine q_new hF hU hS hA dX11_buyer_36 4 rfl inX4 tyX4 tyX4_ok w_502 w_503 w_109 [.int 0, .int 0] (by decide) (Nat.le_of_ble_eq_true rfl) (Nat.le_of_ble_eq_true rfl) (fun q_2 H hU hS => ?_)
    have hU : qH E A 0 (qsX u (u.2.2.2.2 ++ [(q_2, .inr (4, [.int 0, .int 0]))])) s0 H := hU
    refine lv_dup hF.1 hF.2.1 dX11_buyer_39 rfl ?_
    refine lv_iload_n hF.1 hF.2.1 dX11_buyer_40 rfl (lv_at hl 1 rfl) ?_
    refine lv_iload_n hF.1 hF.2.1 dX11_buyer_41 rfl (lv_at hl 2 rfl) ?_
    have hd9 : (qsX u (u.2.2.2.2 ++ [(q_2, .inr (4, [.int 0, .int 0]))])).2.2.2.2[u.2.2.2.2.length + 0]? = some (q_2, .inr (4, [.int 0, .int 0])) := q_cat (X := u.2.2.2.2) (C := [(q_2, .inr (4, [.int 0, .int 0]))]) (m := 0) rfl rfl
    have hM9 := (k_X4_init l E A 0 (qsX u (u.2.2.2.2 ++ [(q_2, .inr (4, [.int 0, .int 0]))])) q_2 (u.2.2.2.2.length + 0) x y hd9)
    have hR9 := q_runI (l := l) (e := e0) (below := bl0) (meth := me0) (R := qR 3 1 2) (cells := 1) (slots := 2) (st0 := [.int y, .int x, .ref q_2, .ref q_2, .int 0, .ref (E.2.2 1)]) (rest := [.ref q_2, .int 0, .ref (E.2.2 1)]) hF hU hS hA 2 hM9 w_504 w_505 w_109 w_506 rfl (by decide +kernel) ⟨Nat.le_of_ble_eq_true rfl, Nat.le_of_ble_eq_true rfl⟩ dX11_buyer_42 rfl hl.1 rfl (Nat.le_of_ble_eq_true rfl) ⟨Nat.le_of_ble_eq_true rfl, Nat.le_of_ble_eq_true rfl⟩
    refine q_callv hR9 hU.2.2.2 hS (fun u_3 H locs hw_4 hU hS => ?_)
    have e9 : (u.2.2.2.2 ++ ([(q_2, .inr (4, [.int 0, .int 0]))] : va_W)).set (u.2.2.2.2.length + 0) (q_2, .inr (4, [.int x, .int y])) ++ [] = u.2.2.2.2 ++ (([(q_2, .inr (4, [.int x, .int y]))] : va_W) ++ []) := q_csub rfl rfl
    have e9 : (u.2.2.2.2 ++ ([(q_2, .inr (4, [.int 0, .int 0]))] : va_W)).set (u.2.2.2.2.length + 0) (q_2, .inr (4, [.int x, .int y])) ++ [] = u.2.2.2.2 ++ ([(q_2, .inr (4, [.int x, .int y]))] : va_W) := e9
    have hU : qH E A 0 (qsX u (u.2.2.2.2 ++ [(q_2, .inr (4, [.int x, .int y]))])) s0 H := by
      have h : qH E A 0 (qsX u ((u.2.2.2.2 ++ ([(q_2, .inr (4, [.int 0, .int 0]))] : va_W)).set (u.2.2.2.2.length + 0) (q_2, .inr (4, [.int x, .int y])) ++ [])) s0 H := by rw [hw_4] at hU; exact hU
      rw [e9] at h; exact h
    have hd9 : (qsX u (u.2.2.2.2 ++ [(q_2, .inr (4, [.int x, .int y]))])).2.2.2.2[u.2.2.2.2.length + 0]? = some (q_2, .inr (4, [.int x, .int y])) := q_cat (X := u.2.2.2.2) (C := [(q_2, .inr (4, [.int x, .int y]))]) (m := 0) rfl rfl
    refine q_aast hF hU hS dX11_buyer_45 1 1 5 rfl rfl (by decide) (u.2.2.2.2.length + 0) 4 hd9 rfl rfl (q_in (by decide)) (fun f_5 H locs hg hU hS => ?_)
    refine lv_aload_n hF.1 hF.2.1 dX11_buyer_46 rfl (lv_at hl 0 rfl) ?_
    refine q_get (v := .ref (E.2.2 99)) hF hU dX11_buyer_47 0 11 0 1100 1199 rfl rfl rfl rfl inX11 (by decide) (by decide) w_436 rfl rfl ?_
    refine lv_dup hF.1 hF.2.1 dX11_buyer_50 rfl ?_
    refine q_get (v := .int 0) hF hU dX11_buyer_51 1 0 9 9 99 rfl rfl rfl rfl inX0 (by decide) (by decide) w_167 rfl (congrArg Value.int h_buyerCount) ?_
    refine lv_iconst (v := 1) hF.1 hF.2.1 dX11_buyer_54 (by decide) ?_
    refine lv_iadd hF.1 hF.2.1 dX11_buyer_55 ?_
    refine q_topi (y := 1) (by decide) ?_
    refine q_put hF hU hS dX11_buyer_56 1 0 9 9 99 rfl rfl rfl rfl inX0 tyX0 tyX0_ok nmX0 (by decide) (by decide) rfl w_167 rfl rfl rfl rfl (fun H locs hU hS => ?_)
    refine lv_aload_n hF.1 hF.2.1 dX11_buyer_59 rfl (lv_at hl 0 rfl) ?_
    refine q_get (v := .ref (E.2.2 99)) hF hU dX11_buyer_60 0 11 0 1100 1199 rfl rfl rfl rfl inX11 (by decide) (by decide) w_436 rfl rfl ?_
    refine q_get (v := .int 1) hF hU dX11_buyer_63 1 0 9 9 99 rfl rfl rfl rfl inX0 (by decide) (by decide) w_167 rfl rfl ?_
    refine lv_iconst (v := 1) hF.1 hF.2.1 dX11_buyer_66 (by decide) ?_
    refine lv_isub hF.1 hF.2.1 dX11_buyer_67 ?_
    refine q_topi (y := 0) (by decide) ?_
    exact q_iret hF hr rfl hlocks hU hS dX11_buyer_68 (k_X11_buyer_r0 x y b2_1)
  · refine lv_if_eq (tgt := 20) hF.1 hF.2.1 dX11_buyer_5 (by decide) (fun _ => ?_) (fun h9 => absurd (by decide) h9)
    refine lv_iconst (v := (-1)) hF.1 hF.2.1 dX11_buyer_20 (by decide) ?_
    refine W.widen (k := 1) (n := 2) (by decide) (by decide) ?_
    exact q_iret hF hr rfl hlocks hU hS dX11_buyer_21 (k_X11_buyer_r1 x y b2_1)
theorem k_X11_shop_r0 (x : Int32) (y : Int32) (ch : Int32) (fr : Int32) (to : Int32) (rc : Int32) (b2_1 : (0 ≤ x ∧ x ≤ 99) ∧ (0 ≤ y ∧ y ≤ 99)) (b9_2 : 0 ≤ ch ∧ ch ≤ 3) (b17_3 : 0 ≤ fr ∧ fr ≤ 1439) (b25_4 : 0 ≤ to ∧ to ≤ 1439) (c35_5 : (fr : Int32) ≤ to) : (((0 ≤ x ∧ x ≤ 99) ∧ (0 ≤ y ∧ y ≤ 99) ∧ (0 ≤ ch ∧ ch ≤ 3) ∧ (0 ≤ fr ∧ fr ≤ 1439) ∧ fr ≤ to ∧ to ≤ 1439) ∧ (0 : Int32) = 0) ∨ (¬ ((0 ≤ x ∧ x ≤ 99) ∧ (0 ≤ y ∧ y ≤ 99) ∧ (0 ≤ ch ∧ ch ≤ 3) ∧ (0 ≤ fr ∧ fr ≤ 1439) ∧ fr ≤ to ∧ to ≤ 1439) ∧ (0 : Int32) = (-1)) := by
  first | rfl | (simp only [Int32.lt_iff_toInt_lt, Int32.le_iff_toInt_le, ← Int32.toInt_inj, Int32.zero_add, Int32.add_zero] at *; omega) | (simp only [Int32.lt_iff_toInt_lt, Int32.le_iff_toInt_le, ← Int32.toInt_inj, Int32.zero_add, Int32.add_zero] at *; done) | (simp only [Int32.lt_iff_toInt_lt, Int32.le_iff_toInt_le, ← Int32.toInt_inj, Int32.zero_add, Int32.add_zero] at *; simp at *; omega) | (simp at *; omega) | (simp_all; done)
theorem k_X11_shop_r1 (x : Int32) (y : Int32) (ch : Int32) (fr : Int32) (to : Int32) (rc : Int32) (b2_1 : (0 ≤ x ∧ x ≤ 99) ∧ (0 ≤ y ∧ y ≤ 99)) (b9_2 : 0 ≤ ch ∧ ch ≤ 3) (b17_3 : 0 ≤ fr ∧ fr ≤ 1439) (b25_4 : 0 ≤ to ∧ to ≤ 1439) (c35_5 : ¬ (fr : Int32) ≤ to) : (((0 ≤ x ∧ x ≤ 99) ∧ (0 ≤ y ∧ y ≤ 99) ∧ (0 ≤ ch ∧ ch ≤ 3) ∧ (0 ≤ fr ∧ fr ≤ 1439) ∧ fr ≤ to ∧ to ≤ 1439) ∧ ((-1) : Int32) = 0) ∨ (¬ ((0 ≤ x ∧ x ≤ 99) ∧ (0 ≤ y ∧ y ≤ 99) ∧ (0 ≤ ch ∧ ch ≤ 3) ∧ (0 ≤ fr ∧ fr ≤ 1439) ∧ fr ≤ to ∧ to ≤ 1439) ∧ ((-1) : Int32) = (-1)) := by
  first | rfl | (simp only [Int32.lt_iff_toInt_lt, Int32.le_iff_toInt_le, ← Int32.toInt_inj, Int32.zero_add, Int32.add_zero] at *; omega) | (simp only [Int32.lt_iff_toInt_lt, Int32.le_iff_toInt_le, ← Int32.toInt_inj, Int32.zero_add, Int32.add_zero] at *; done) | (simp only [Int32.lt_iff_toInt_lt, Int32.le_iff_toInt_le, ← Int32.toInt_inj, Int32.zero_add, Int32.add_zero] at *; simp at *; omega) | (simp at *; omega) | (simp_all; done)
theorem k_X11_shop_r2 (x : Int32) (y : Int32) (ch : Int32) (fr : Int32) (to : Int32) (rc : Int32) (b2_1 : (0 ≤ x ∧ x ≤ 99) ∧ (0 ≤ y ∧ y ≤ 99)) (b9_2 : 0 ≤ ch ∧ ch ≤ 3) (b17_3 : 0 ≤ fr ∧ fr ≤ 1439) (b25_4 : ¬ (0 ≤ to ∧ to ≤ 1439)) : (((0 ≤ x ∧ x ≤ 99) ∧ (0 ≤ y ∧ y ≤ 99) ∧ (0 ≤ ch ∧ ch ≤ 3) ∧ (0 ≤ fr ∧ fr ≤ 1439) ∧ fr ≤ to ∧ to ≤ 1439) ∧ ((-1) : Int32) = 0) ∨ (¬ ((0 ≤ x ∧ x ≤ 99) ∧ (0 ≤ y ∧ y ≤ 99) ∧ (0 ≤ ch ∧ ch ≤ 3) ∧ (0 ≤ fr ∧ fr ≤ 1439) ∧ fr ≤ to ∧ to ≤ 1439) ∧ ((-1) : Int32) = (-1)) := by
  first | rfl | (simp only [Int32.lt_iff_toInt_lt, Int32.le_iff_toInt_le, ← Int32.toInt_inj, Int32.zero_add, Int32.add_zero] at *; omega) | (simp only [Int32.lt_iff_toInt_lt, Int32.le_iff_toInt_le, ← Int32.toInt_inj, Int32.zero_add, Int32.add_zero] at *; done) | (simp only [Int32.lt_iff_toInt_lt, Int32.le_iff_toInt_le, ← Int32.toInt_inj, Int32.zero_add, Int32.add_zero] at *; simp at *; omega) | (simp at *; omega) | (simp_all; done)
theorem k_X11_shop_r3 (x : Int32) (y : Int32) (ch : Int32) (fr : Int32) (to : Int32) (rc : Int32) (b2_1 : (0 ≤ x ∧ x ≤ 99) ∧ (0 ≤ y ∧ y ≤ 99)) (b9_2 : 0 ≤ ch ∧ ch ≤ 3) (b17_3 : ¬ (0 ≤ fr ∧ fr ≤ 1439)) : (((0 ≤ x ∧ x ≤ 99) ∧ (0 ≤ y ∧ y ≤ 99) ∧ (0 ≤ ch ∧ ch ≤ 3) ∧ (0 ≤ fr ∧ fr ≤ 1439) ∧ fr ≤ to ∧ to ≤ 1439) ∧ ((-1) : Int32) = 0) ∨ (¬ ((0 ≤ x ∧ x ≤ 99) ∧ (0 ≤ y ∧ y ≤ 99) ∧ (0 ≤ ch ∧ ch ≤ 3) ∧ (0 ≤ fr ∧ fr ≤ 1439) ∧ fr ≤ to ∧ to ≤ 1439) ∧ ((-1) : Int32) = (-1)) := by
  first | rfl | (simp only [Int32.lt_iff_toInt_lt, Int32.le_iff_toInt_le, ← Int32.toInt_inj, Int32.zero_add, Int32.add_zero] at *; omega) | (simp only [Int32.lt_iff_toInt_lt, Int32.le_iff_toInt_le, ← Int32.toInt_inj, Int32.zero_add, Int32.add_zero] at *; done) | (simp only [Int32.lt_iff_toInt_lt, Int32.le_iff_toInt_le, ← Int32.toInt_inj, Int32.zero_add, Int32.add_zero] at *; simp at *; omega) | (simp at *; omega) | (simp_all; done)
theorem k_X11_shop_r4 (x : Int32) (y : Int32) (ch : Int32) (fr : Int32) (to : Int32) (rc : Int32) (b2_1 : (0 ≤ x ∧ x ≤ 99) ∧ (0 ≤ y ∧ y ≤ 99)) (b9_2 : ¬ (0 ≤ ch ∧ ch ≤ 3)) : (((0 ≤ x ∧ x ≤ 99) ∧ (0 ≤ y ∧ y ≤ 99) ∧ (0 ≤ ch ∧ ch ≤ 3) ∧ (0 ≤ fr ∧ fr ≤ 1439) ∧ fr ≤ to ∧ to ≤ 1439) ∧ ((-1) : Int32) = 0) ∨ (¬ ((0 ≤ x ∧ x ≤ 99) ∧ (0 ≤ y ∧ y ≤ 99) ∧ (0 ≤ ch ∧ ch ≤ 3) ∧ (0 ≤ fr ∧ fr ≤ 1439) ∧ fr ≤ to ∧ to ≤ 1439) ∧ ((-1) : Int32) = (-1)) := by
  first | rfl | (simp only [Int32.lt_iff_toInt_lt, Int32.le_iff_toInt_le, ← Int32.toInt_inj, Int32.zero_add, Int32.add_zero] at *; omega) | (simp only [Int32.lt_iff_toInt_lt, Int32.le_iff_toInt_le, ← Int32.toInt_inj, Int32.zero_add, Int32.add_zero] at *; done) | (simp only [Int32.lt_iff_toInt_lt, Int32.le_iff_toInt_le, ← Int32.toInt_inj, Int32.zero_add, Int32.add_zero] at *; simp at *; omega) | (simp at *; omega) | (simp_all; done)
theorem k_X11_shop_r5 (x : Int32) (y : Int32) (ch : Int32) (fr : Int32) (to : Int32) (rc : Int32) (b2_1 : ¬ ((0 ≤ x ∧ x ≤ 99) ∧ (0 ≤ y ∧ y ≤ 99))) : (((0 ≤ x ∧ x ≤ 99) ∧ (0 ≤ y ∧ y ≤ 99) ∧ (0 ≤ ch ∧ ch ≤ 3) ∧ (0 ≤ fr ∧ fr ≤ 1439) ∧ fr ≤ to ∧ to ≤ 1439) ∧ ((-1) : Int32) = 0) ∨ (¬ ((0 ≤ x ∧ x ≤ 99) ∧ (0 ≤ y ∧ y ≤ 99) ∧ (0 ≤ ch ∧ ch ≤ 3) ∧ (0 ≤ fr ∧ fr ≤ 1439) ∧ fr ≤ to ∧ to ≤ 1439) ∧ ((-1) : Int32) = (-1)) := by
  first | rfl | (simp only [Int32.lt_iff_toInt_lt, Int32.le_iff_toInt_le, ← Int32.toInt_inj, Int32.zero_add, Int32.add_zero] at *; omega) | (simp only [Int32.lt_iff_toInt_lt, Int32.le_iff_toInt_le, ← Int32.toInt_inj, Int32.zero_add, Int32.add_zero] at *; done) | (simp only [Int32.lt_iff_toInt_lt, Int32.le_iff_toInt_le, ← Int32.toInt_inj, Int32.zero_add, Int32.add_zero] at *; simp at *; omega) | (simp at *; omega) | (simp_all; done)
set_option maxHeartbeats 400000 in
set_option maxRecDepth 100000 in
theorem k_X11_shop (l : Launch) (E : qE) (A : Nat → Prop) (u : qS) (x : Int32) (y : Int32) (ch : Int32) (fr : Int32) (to : Int32) (rc : Int32) (h_shopCount : u.1 8 = 0) (hnar : narrow .boolean (.int rc) = .int rc) (hfit : fits .boolean (.int rc) = true) : Met l yX11_shop (uws yX11_shop cX11_shop 7 (some .int)) (qR 3 2 7) (qPc E A 0 u [.ref (E.2.2 1199), .int x, .int y, .int ch, .int fr, .int to, .int rc]) (qQi E A 0 (fun r _ => (((0 ≤ x ∧ x ≤ 99) ∧ (0 ≤ y ∧ y ≤ 99) ∧ (0 ≤ ch ∧ ch ≤ 3) ∧ (0 ≤ fr ∧ fr ≤ 1439) ∧ fr ≤ to ∧ to ≤ 1439) ∧ r = 0) ∨ (¬ ((0 ≤ x ∧ x ≤ 99) ∧ (0 ≤ y ∧ y ≤ 99) ∧ (0 ≤ ch ∧ ch ≤ 3) ∧ (0 ≤ fr ∧ fr ≤ 1439) ∧ fr ≤ to ∧ to ≤ 1439) ∧ r = (-1)))) 2 7 A := by
  refine q_met (own := RX11) (f := 3) [.ref (E.2.2 1199), .int x, .int y, .int ch, .int fr, .int to, .int rc] (by decide) (Nat.le_of_ble_eq_true rfl) rfl ?_
  intro p0 e0 s0 m0 bl0 me0 cd0 ls hF hr hlocks hU hS hA hl
  have hl : lv_has ls 7 [(0, .ref (E.2.2 1199)), (1, .int x), (2, .int y), (3, .int ch), (4, .int fr), (5, .int to), (6, .int rc)] := hl
  refine lv_iload_n hF.1 hF.2.1 dX11_shop_0 rfl (lv_at hl 1 rfl) ?_
  refine lv_iload_n hF.1 hF.2.1 dX11_shop_1 rfl (lv_at hl 2 rfl) ?_
  have hM9 := (k_X11_isPlace l E A 0 u x y)
  have hR9 := q_runS (l := l) (e := e0) (below := bl0) (meth := me0) (R := qR 3 2 7) (cells := 0) (slots := 0) (st0 := [.int y, .int x]) (rest := []) hF hU hS hA 2 hM9 w_491 w_492 w_99 w_493 (by decide +kernel) ⟨Nat.le_of_ble_eq_true rfl, Nat.le_of_ble_eq_true rfl⟩ dX11_shop_2 rfl hl.1 rfl (Nat.le_of_ble_eq_true rfl) ⟨Nat.le_of_ble_eq_true rfl, Nat.le_of_ble_eq_true rfl⟩
  refine q_calli hR9 hU.2.2.2 hS (fun r u1 H locs hw hU hS => ?_)
  obtain ⟨hu1, hw⟩ := hw
  rw [hu1] at hU
  rcases hw with ⟨rfl, b2_1⟩ | ⟨rfl, b2_1⟩
  · refine lv_if_eq (tgt := 38) hF.1 hF.2.1 dX11_shop_5 (by decide) (fun h9 => absurd h9 (by decide)) (fun _ => ?_)
    refine lv_iload_n hF.1 hF.2.1 dX11_shop_8 rfl (lv_at hl 3 rfl) ?_
    have hM9 := (k_X11_isChain l E A 0 u ch)
    have hR9 := q_runS (l := l) (e := e0) (below := bl0) (meth := me0) (R := qR 3 2 7) (cells := 0) (slots := 0) (st0 := [.int ch]) (rest := []) hF hU hS hA 1 hM9 w_494 w_495 w_99 w_496 (by decide +kernel) ⟨Nat.le_of_ble_eq_true rfl, Nat.le_of_ble_eq_true rfl⟩ dX11_shop_9 rfl hl.1 rfl (Nat.le_of_ble_eq_true rfl) ⟨Nat.le_of_ble_eq_true rfl, Nat.le_of_ble_eq_true rfl⟩
    refine q_calli hR9 hU.2.2.2 hS (fun r u1 H locs hw hU hS => ?_)
    obtain ⟨hu1, hw⟩ := hw
    rw [hu1] at hU
    rcases hw with ⟨rfl, b9_2⟩ | ⟨rfl, b9_2⟩
    · refine lv_if_eq (tgt := 38) hF.1 hF.2.1 dX11_shop_12 (by decide) (fun h9 => absurd h9 (by decide)) (fun _ => ?_)
      refine lv_iload hF.1 hF.2.1 dX11_shop_15 (lv_at hl 4 rfl) ?_
      have hM9 := (k_X11_isMinute l E A 0 u fr)
      have hR9 := q_runS (l := l) (e := e0) (below := bl0) (meth := me0) (R := qR 3 2 7) (cells := 0) (slots := 0) (st0 := [.int fr]) (rest := []) hF hU hS hA 1 hM9 w_497 w_498 w_99 w_499 (by decide +kernel) ⟨Nat.le_of_ble_eq_true rfl, Nat.le_of_ble_eq_true rfl⟩ dX11_shop_17 rfl hl.1 rfl (Nat.le_of_ble_eq_true rfl) ⟨Nat.le_of_ble_eq_true rfl, Nat.le_of_ble_eq_true rfl⟩
      refine q_calli hR9 hU.2.2.2 hS (fun r u1 H locs hw hU hS => ?_)
      obtain ⟨hu1, hw⟩ := hw
      rw [hu1] at hU
      rcases hw with ⟨rfl, b17_3⟩ | ⟨rfl, b17_3⟩
      · refine lv_if_eq (tgt := 38) hF.1 hF.2.1 dX11_shop_20 (by decide) (fun h9 => absurd h9 (by decide)) (fun _ => ?_)
        refine lv_iload hF.1 hF.2.1 dX11_shop_23 (lv_at hl 5 rfl) ?_
        have hM9 := (k_X11_isMinute l E A 0 u to)
        have hR9 := q_runS (l := l) (e := e0) (below := bl0) (meth := me0) (R := qR 3 2 7) (cells := 0) (slots := 0) (st0 := [.int to]) (rest := []) hF hU hS hA 1 hM9 w_497 w_498 w_99 w_499 (by decide +kernel) ⟨Nat.le_of_ble_eq_true rfl, Nat.le_of_ble_eq_true rfl⟩ dX11_shop_25 rfl hl.1 rfl (Nat.le_of_ble_eq_true rfl) ⟨Nat.le_of_ble_eq_true rfl, Nat.le_of_ble_eq_true rfl⟩
        refine q_calli hR9 hU.2.2.2 hS (fun r u1 H locs hw hU hS => ?_)
        obtain ⟨hu1, hw⟩ := hw
        rw [hu1] at hU
        rcases hw with ⟨rfl, b25_4⟩ | ⟨rfl, b25_4⟩
        · refine lv_if_eq (tgt := 38) hF.1 hF.2.1 dX11_shop_28 (by decide) (fun h9 => absurd h9 (by decide)) (fun _ => ?_)
          refine lv_iload hF.1 hF.2.1 dX11_shop_31 (lv_at hl 4 rfl) ?_
          refine lv_iload hF.1 hF.2.1 dX11_shop_33 (lv_at hl 5 rfl) ?_
          refine lv_icmp_le (tgt := 40) hF.1 hF.2.1 dX11_shop_35 (by decide) (fun c35_5 => ?_) (fun c35_5 => ?_)
          · refine lv_aload_n hF.1 hF.2.1 dX11_shop_40 rfl (lv_at hl 0 rfl) ?_
            refine q_get (v := .ref (E.2.2 99)) hF hU dX11_shop_41 0 11 0 1100 1199 rfl rfl rfl rfl inX11 (by decide) (by decide) w_436 rfl rfl ?_
            refine q_get (v := .int 0) hF hU dX11_shop_44 1 0 8 8 99 rfl rfl rfl rfl inX0 (by decide) (by decide) w_162 rfl (congrArg Value.int h_shopCount) ?_
            refine lv_bipush (v := 20) hF.1 hF.2.1 dX11_shop_47 (by decide) ?_
            refine lv_icmp_lt (tgt := 54) hF.1 hF.2.1 dX11_shop_49 (by decide) (fun _ => ?_) (fun h9 => absurd (by decide) h9)
            refine lv_aload_n hF.1 hF.2.1 dX11_shop_54 rfl (lv_at hl 0 rfl) ?_
            refine q_get (v := .ref (E.2.2 99)) hF hU dX11_shop_55 0 11 0 1100 1199 rfl rfl rfl rfl inX11 (by decide) (by decide) w_436 rfl rfl ?_
            refine q_get (v := .ref (E.2.2 0)) hF hU dX11_shop_58 1 0 0 0 99 rfl rfl rfl rfl inX0 (by decide) (by decide) w_143 rfl rfl ?_
            refine lv_aload_n hF.1 hF.2.1 dX11_shop_61 rfl (lv_at hl 0 rfl) ?_
            refine q_get (v := .ref (E.2.2 99)) hF hU dX11_shop_62 0 11 0 1100 1199 rfl rfl rfl rfl inX11 (by decide) (by decide) w_436 rfl rfl ?_
            refine q_get (v := .int 0) hF hU dX11_shop_65 1 0 8 8 99 rfl rfl rfl rfl inX0 (by decide) (by decide) w_162 rfl (congrArg Value.int h_shopCount) ?_
            refine q_new hF hU hS hA dX11_shop_68 7 rfl inX7 tyX7 tyX7_ok w_500 w_501 w_108 [.null, .int 0, .int 0, .int 0, .int 0] (by decide) (Nat.le_of_ble_eq_true rfl) (Nat.le_of_ble_eq_true rfl) (fun q_6 H hU hS => ?_)
            have hU : qH E A 0 (qsX u (u.2.2.2.2 ++ [(q_6, .inr (7, [.null, .int 0, .int 0, .int 0, .int 0]))])) s0 H := hU
            refine lv_dup hF.1 hF.2.1 dX11_shop_71 rfl ?_
            refine q_new hF hU hS hA dX11_shop_72 4 rfl inX4 tyX4 tyX4_ok w_502 w_503 w_109 [.int 0, .int 0] (by decide) (Nat.le_of_ble_eq_true rfl) (Nat.le_of_ble_eq_true rfl) (fun q_7 H hU hS => ?_)
            have e7 : (u.2.2.2.2 ++ ([(q_6, .inr (7, [.null, .int 0, .int 0, .int 0, .int 0]))] : va_W)) ++ [(q_7, .inr (4, [.int 0, .int 0]))] = u.2.2.2.2 ++ ([(q_6, .inr (7, [.null, .int 0, .int 0, .int 0, .int 0])), (q_7, .inr (4, [.int 0, .int 0]))] : va_W) := List.append_assoc _ _ _
            have hU : qH E A 0 (qsX u (u.2.2.2.2 ++ [(q_6, .inr (7, [.null, .int 0, .int 0, .int 0, .int 0])), (q_7, .inr (4, [.int 0, .int 0]))])) s0 H := by
              have h : qH E A 0 (qsX u ((u.2.2.2.2 ++ ([(q_6, .inr (7, [.null, .int 0, .int 0, .int 0, .int 0]))] : va_W)) ++ [(q_7, .inr (4, [.int 0, .int 0]))])) s0 H := hU
              rw [e7] at h; exact h
            refine lv_dup hF.1 hF.2.1 dX11_shop_75 rfl ?_
            refine lv_iload_n hF.1 hF.2.1 dX11_shop_76 rfl (lv_at hl 1 rfl) ?_
            refine lv_iload_n hF.1 hF.2.1 dX11_shop_77 rfl (lv_at hl 2 rfl) ?_
            have hd9 : (qsX u (u.2.2.2.2 ++ [(q_6, .inr (7, [.null, .int 0, .int 0, .int 0, .int 0])), (q_7, .inr (4, [.int 0, .int 0]))])).2.2.2.2[u.2.2.2.2.length + 1]? = some (q_7, .inr (4, [.int 0, .int 0])) := q_cat (X := u.2.2.2.2) (C := [(q_6, .inr (7, [.null, .int 0, .int 0, .int 0, .int 0])), (q_7, .inr (4, [.int 0, .int 0]))]) (m := 1) rfl rfl
            have hM9 := (k_X4_init l E A 0 (qsX u (u.2.2.2.2 ++ [(q_6, .inr (7, [.null, .int 0, .int 0, .int 0, .int 0])), (q_7, .inr (4, [.int 0, .int 0]))])) q_7 (u.2.2.2.2.length + 1) x y hd9)
            have hR9 := q_runI (l := l) (e := e0) (below := bl0) (meth := me0) (R := qR 3 2 7) (cells := 2) (slots := 7) (st0 := [.int y, .int x, .ref q_7, .ref q_7, .ref q_6, .ref q_6, .int 0, .ref (E.2.2 0)]) (rest := [.ref q_7, .ref q_6, .ref q_6, .int 0, .ref (E.2.2 0)]) hF hU hS hA 2 hM9 w_504 w_505 w_109 w_506 rfl (by decide +kernel) ⟨Nat.le_of_ble_eq_true rfl, Nat.le_of_ble_eq_true rfl⟩ dX11_shop_78 rfl hl.1 rfl (Nat.le_of_ble_eq_true rfl) ⟨Nat.le_of_ble_eq_true rfl, Nat.le_of_ble_eq_true rfl⟩
            refine q_callv hR9 hU.2.2.2 hS (fun u_8 H locs hw_9 hU hS => ?_)
            have e9 : (u.2.2.2.2 ++ ([(q_6, .inr (7, [.null, .int 0, .int 0, .int 0, .int 0])), (q_7, .inr (4, [.int 0, .int 0]))] : va_W)).set (u.2.2.2.2.length + 1) (q_7, .inr (4, [.int x, .int y])) ++ [] = u.2.2.2.2 ++ (([(q_6, .inr (7, [.null, .int 0, .int 0, .int 0, .int 0])), (q_7, .inr (4, [.int x, .int y]))] : va_W) ++ []) := q_csub rfl rfl
            have e9 : (u.2.2.2.2 ++ ([(q_6, .inr (7, [.null, .int 0, .int 0, .int 0, .int 0])), (q_7, .inr (4, [.int 0, .int 0]))] : va_W)).set (u.2.2.2.2.length + 1) (q_7, .inr (4, [.int x, .int y])) ++ [] = u.2.2.2.2 ++ ([(q_6, .inr (7, [.null, .int 0, .int 0, .int 0, .int 0])), (q_7, .inr (4, [.int x, .int y]))] : va_W) := e9
            have hU : qH E A 0 (qsX u (u.2.2.2.2 ++ [(q_6, .inr (7, [.null, .int 0, .int 0, .int 0, .int 0])), (q_7, .inr (4, [.int x, .int y]))])) s0 H := by
              have h : qH E A 0 (qsX u ((u.2.2.2.2 ++ ([(q_6, .inr (7, [.null, .int 0, .int 0, .int 0, .int 0])), (q_7, .inr (4, [.int 0, .int 0]))] : va_W)).set (u.2.2.2.2.length + 1) (q_7, .inr (4, [.int x, .int y])) ++ [])) s0 H := by rw [hw_9] at hU; exact hU
              rw [e9] at h; exact h
            refine lv_iload_n hF.1 hF.2.1 dX11_shop_81 rfl (lv_at hl 3 rfl) ?_
            refine lv_iload hF.1 hF.2.1 dX11_shop_82 (lv_at hl 4 rfl) ?_
            refine lv_iload hF.1 hF.2.1 dX11_shop_84 (lv_at hl 5 rfl) ?_
            refine lv_iload hF.1 hF.2.1 dX11_shop_86 (lv_at hl 6 rfl) ?_
            have hd9 : (qsX u (u.2.2.2.2 ++ [(q_6, .inr (7, [.null, .int 0, .int 0, .int 0, .int 0])), (q_7, .inr (4, [.int x, .int y]))])).2.2.2.2[u.2.2.2.2.length + 0]? = some (q_6, .inr (7, [.null, .int 0, .int 0, .int 0, .int 0])) := q_cat (X := u.2.2.2.2) (C := [(q_6, .inr (7, [.null, .int 0, .int 0, .int 0, .int 0])), (q_7, .inr (4, [.int x, .int y]))]) (m := 0) rfl rfl
            have hM9 := (k_X7_init l E A 0 (qsX u (u.2.2.2.2 ++ [(q_6, .inr (7, [.null, .int 0, .int 0, .int 0, .int 0])), (q_7, .inr (4, [.int x, .int y]))])) q_6 (u.2.2.2.2.length + 0) q_7 ch fr to rc hnar hfit hd9)
            have hR9 := q_runI (l := l) (e := e0) (below := bl0) (meth := me0) (R := qR 3 2 7) (cells := 2) (slots := 7) (st0 := [.int rc, .int to, .int fr, .int ch, .ref q_7, .ref q_6, .ref q_6, .int 0, .ref (E.2.2 0)]) (rest := [.ref q_6, .int 0, .ref (E.2.2 0)]) hF hU hS hA 5 hM9 w_515 w_516 w_108 w_517 rfl (by decide +kernel) ⟨Nat.le_of_ble_eq_true rfl, Nat.le_of_ble_eq_true rfl⟩ dX11_shop_88 rfl hl.1 rfl (Nat.le_of_ble_eq_true rfl) ⟨Nat.le_of_ble_eq_true rfl, Nat.le_of_ble_eq_true rfl⟩
            refine q_callv hR9 hU.2.2.2 hS (fun u_10 H locs hw_11 hU hS => ?_)
            have e9 : (u.2.2.2.2 ++ ([(q_6, .inr (7, [.null, .int 0, .int 0, .int 0, .int 0])), (q_7, .inr (4, [.int x, .int y]))] : va_W)).set (u.2.2.2.2.length + 0) (q_6, .inr (7, [.ref q_7, .int ch, .int fr, .int to, .int rc])) ++ [] = u.2.2.2.2 ++ (([(q_6, .inr (7, [.ref q_7, .int ch, .int fr, .int to, .int rc])), (q_7, .inr (4, [.int x, .int y]))] : va_W) ++ []) := q_csub rfl rfl
            have e9 : (u.2.2.2.2 ++ ([(q_6, .inr (7, [.null, .int 0, .int 0, .int 0, .int 0])), (q_7, .inr (4, [.int x, .int y]))] : va_W)).set (u.2.2.2.2.length + 0) (q_6, .inr (7, [.ref q_7, .int ch, .int fr, .int to, .int rc])) ++ [] = u.2.2.2.2 ++ ([(q_6, .inr (7, [.ref q_7, .int ch, .int fr, .int to, .int rc])), (q_7, .inr (4, [.int x, .int y]))] : va_W) := e9
            have hU : qH E A 0 (qsX u (u.2.2.2.2 ++ [(q_6, .inr (7, [.ref q_7, .int ch, .int fr, .int to, .int rc])), (q_7, .inr (4, [.int x, .int y]))])) s0 H := by
              have h : qH E A 0 (qsX u ((u.2.2.2.2 ++ ([(q_6, .inr (7, [.null, .int 0, .int 0, .int 0, .int 0])), (q_7, .inr (4, [.int x, .int y]))] : va_W)).set (u.2.2.2.2.length + 0) (q_6, .inr (7, [.ref q_7, .int ch, .int fr, .int to, .int rc])) ++ [])) s0 H := by rw [hw_11] at hU; exact hU
              rw [e9] at h; exact h
            have hd9 : (qsX u (u.2.2.2.2 ++ [(q_6, .inr (7, [.ref q_7, .int ch, .int fr, .int to, .int rc])), (q_7, .inr (4, [.int x, .int y]))])).2.2.2.2[u.2.2.2.2.length + 0]? = some (q_6, .inr (7, [.ref q_7, .int ch, .int fr, .int to, .int rc])) := q_cat (X := u.2.2.2.2) (C := [(q_6, .inr (7, [.ref q_7, .int ch, .int fr, .int to, .int rc])), (q_7, .inr (4, [.int x, .int y]))]) (m := 0) rfl rfl
            refine q_aast hF hU hS dX11_shop_91 0 0 4 rfl rfl (by decide) (u.2.2.2.2.length + 0) 7 hd9 rfl rfl (q_in (by decide)) (fun f_12 H locs hg hU hS => ?_)
            refine lv_aload_n hF.1 hF.2.1 dX11_shop_92 rfl (lv_at hl 0 rfl) ?_
            refine q_get (v := .ref (E.2.2 99)) hF hU dX11_shop_93 0 11 0 1100 1199 rfl rfl rfl rfl inX11 (by decide) (by decide) w_436 rfl rfl ?_
            refine lv_dup hF.1 hF.2.1 dX11_shop_96 rfl ?_
            refine q_get (v := .int 0) hF hU dX11_shop_97 1 0 8 8 99 rfl rfl rfl rfl inX0 (by decide) (by decide) w_162 rfl (congrArg Value.int h_shopCount) ?_
            refine lv_iconst (v := 1) hF.1 hF.2.1 dX11_shop_100 (by decide) ?_
            refine lv_iadd hF.1 hF.2.1 dX11_shop_101 ?_
            refine q_topi (y := 1) (by decide) ?_
            refine q_put hF hU hS dX11_shop_102 1 0 8 8 99 rfl rfl rfl rfl inX0 tyX0 tyX0_ok nmX0 (by decide) (by decide) rfl w_162 rfl rfl rfl rfl (fun H locs hU hS => ?_)
            refine lv_aload_n hF.1 hF.2.1 dX11_shop_105 rfl (lv_at hl 0 rfl) ?_
            refine q_get (v := .ref (E.2.2 99)) hF hU dX11_shop_106 0 11 0 1100 1199 rfl rfl rfl rfl inX11 (by decide) (by decide) w_436 rfl rfl ?_
            refine q_get (v := .int 1) hF hU dX11_shop_109 1 0 8 8 99 rfl rfl rfl rfl inX0 (by decide) (by decide) w_162 rfl rfl ?_
            refine lv_iconst (v := 1) hF.1 hF.2.1 dX11_shop_112 (by decide) ?_
            refine lv_isub hF.1 hF.2.1 dX11_shop_113 ?_
            refine q_topi (y := 0) (by decide) ?_
            exact q_iret hF hr rfl hlocks hU hS dX11_shop_114 (k_X11_shop_r0 x y ch fr to rc b2_1 b9_2 b17_3 b25_4 c35_5)
          · refine lv_iconst (v := (-1)) hF.1 hF.2.1 dX11_shop_38 (by decide) ?_
            refine W.widen (k := 2) (n := 7) (by decide) (by decide) ?_
            exact q_iret hF hr rfl hlocks hU hS dX11_shop_39 (k_X11_shop_r1 x y ch fr to rc b2_1 b9_2 b17_3 b25_4 c35_5)
        · refine lv_if_eq (tgt := 38) hF.1 hF.2.1 dX11_shop_28 (by decide) (fun _ => ?_) (fun h9 => absurd (by decide) h9)
          refine lv_iconst (v := (-1)) hF.1 hF.2.1 dX11_shop_38 (by decide) ?_
          refine W.widen (k := 2) (n := 7) (by decide) (by decide) ?_
          exact q_iret hF hr rfl hlocks hU hS dX11_shop_39 (k_X11_shop_r2 x y ch fr to rc b2_1 b9_2 b17_3 b25_4)
      · refine lv_if_eq (tgt := 38) hF.1 hF.2.1 dX11_shop_20 (by decide) (fun _ => ?_) (fun h9 => absurd (by decide) h9)
        refine lv_iconst (v := (-1)) hF.1 hF.2.1 dX11_shop_38 (by decide) ?_
        refine W.widen (k := 2) (n := 7) (by decide) (by decide) ?_
        exact q_iret hF hr rfl hlocks hU hS dX11_shop_39 (k_X11_shop_r3 x y ch fr to rc b2_1 b9_2 b17_3)
    · refine lv_if_eq (tgt := 38) hF.1 hF.2.1 dX11_shop_12 (by decide) (fun _ => ?_) (fun h9 => absurd (by decide) h9)
      refine lv_iconst (v := (-1)) hF.1 hF.2.1 dX11_shop_38 (by decide) ?_
      refine W.widen (k := 2) (n := 7) (by decide) (by decide) ?_
      exact q_iret hF hr rfl hlocks hU hS dX11_shop_39 (k_X11_shop_r4 x y ch fr to rc b2_1 b9_2)
  · refine lv_if_eq (tgt := 38) hF.1 hF.2.1 dX11_shop_5 (by decide) (fun _ => ?_) (fun h9 => absurd (by decide) h9)
    refine lv_iconst (v := (-1)) hF.1 hF.2.1 dX11_shop_38 (by decide) ?_
    refine W.widen (k := 2) (n := 7) (by decide) (by decide) ?_
    exact q_iret hF hr rfl hlocks hU hS dX11_shop_39 (k_X11_shop_r5 x y ch fr to rc b2_1)
set_option maxHeartbeats 400000 in
set_option maxRecDepth 100000 in
theorem k_X8_step (l : Launch) (E : qE) (A : Nat → Prop) (u : qS) (h_length : u.1 801 = 0) (h_next : u.1 806 = 0) : Met l yX8_step (uws yX8_step cX8_step 1 none) (qR 0 0 0) (qPc E A 0 u [.ref (E.2.2 899)]) (qQv E A 0 (fun u1 => u1 = qsI (qsI u 802 0) 803 1)) 0 0 A := by
  refine q_met (own := RX8) (f := 0) [.ref (E.2.2 899)] (by decide) (Nat.le_of_ble_eq_true rfl) rfl ?_
  intro p0 e0 s0 m0 bl0 me0 cd0 ls hF hr hlocks hU hS hA hl
  have hl : lv_has ls 1 [(0, .ref (E.2.2 899))] := hl
  refine lv_aload_n hF.1 hF.2.1 dX8_step_0 rfl (lv_at hl 0 rfl) ?_
  refine q_get (v := .int 0) hF hU dX8_step_1 2 8 6 806 899 rfl rfl rfl rfl inX8 (by decide) (by decide) w_249 rfl (congrArg Value.int h_next) ?_
  refine lv_aload_n hF.1 hF.2.1 dX8_step_4 rfl (lv_at hl 0 rfl) ?_
  refine q_get (v := .int 0) hF hU dX8_step_5 2 8 1 801 899 rfl rfl rfl rfl inX8 (by decide) (by decide) w_239 rfl (congrArg Value.int h_length) ?_
  refine lv_icmp_ge (tgt := 39) hF.1 hF.2.1 dX8_step_8 (by decide) (fun _ => ?_) (fun h9 => absurd (by decide) h9)
  refine lv_aload_n hF.1 hF.2.1 dX8_step_39 rfl (lv_at hl 0 rfl) ?_
  refine lv_aload_n hF.1 hF.2.1 dX8_step_40 rfl (lv_at hl 0 rfl) ?_
  refine q_get (v := .int 0) hF hU dX8_step_41 2 8 6 806 899 rfl rfl rfl rfl inX8 (by decide) (by decide) w_249 rfl (congrArg Value.int h_next) ?_
  refine q_put hF hU hS dX8_step_44 2 8 2 802 899 rfl rfl rfl rfl inX8 tyX8 tyX8_ok nmX8 (by decide) (by decide) rfl w_241 rfl rfl rfl rfl (fun H locs hU hS => ?_)
  refine lv_aload_n hF.1 hF.2.1 dX8_step_47 rfl (lv_at hl 0 rfl) ?_
  refine q_get (v := .int 0) hF hU dX8_step_48 2 8 2 802 899 rfl rfl rfl rfl inX8 (by decide) (by decide) w_241 rfl rfl ?_
  refine lv_aload_n hF.1 hF.2.1 dX8_step_51 rfl (lv_at hl 0 rfl) ?_
  refine q_get (v := .int 0) hF hU dX8_step_52 2 8 1 801 899 rfl rfl rfl rfl inX8 (by decide) (by decide) w_239 rfl (congrArg Value.int h_length) ?_
  refine lv_icmp_lt (tgt := 66) hF.1 hF.2.1 dX8_step_55 (by decide) (fun h9 => absurd h9 (by decide)) (fun _ => ?_)
  refine lv_aload_n hF.1 hF.2.1 dX8_step_58 rfl (lv_at hl 0 rfl) ?_
  refine lv_iconst (v := 1) hF.1 hF.2.1 dX8_step_59 (by decide) ?_
  refine q_put hF hU hS dX8_step_60 2 8 3 803 899 rfl rfl rfl rfl inX8 tyX8 tyX8_ok nmX8 (by decide) (by decide) rfl w_244 rfl rfl rfl rfl (fun H locs hU hS => ?_)
  refine lv_goto (tgt := 136) hF.1 hF.2.1 dX8_step_63 (by decide) ?_
  exact q_vret hF hr hlocks hU hS dX8_step_136 (rfl)
set_option maxHeartbeats 400000 in
set_option maxRecDepth 100000 in
theorem k_X8_rewind (l : Launch) (E : qE) (A : Nat → Prop) (u : qS) (h_length : u.1 801 = 0) : Met l yX8_rewind (uws yX8_rewind cX8_rewind 1 none) (qR 1 0 0) (qPc E A 0 u [.ref (E.2.2 899)]) (qQv E A 0 (fun u1 => u1 = qsI (qsI (qsI u 806 0) 802 0) 803 1)) 0 0 A := by
  refine q_met (own := RX8) (f := 1) [.ref (E.2.2 899)] (by decide) (Nat.le_of_ble_eq_true rfl) rfl ?_
  intro p0 e0 s0 m0 bl0 me0 cd0 ls hF hr hlocks hU hS hA hl
  have hl : lv_has ls 1 [(0, .ref (E.2.2 899))] := hl
  refine lv_aload_n hF.1 hF.2.1 dX8_rewind_0 rfl (lv_at hl 0 rfl) ?_
  refine lv_iconst (v := 0) hF.1 hF.2.1 dX8_rewind_1 (by decide) ?_
  refine q_put hF hU hS dX8_rewind_2 2 8 6 806 899 rfl rfl rfl rfl inX8 tyX8 tyX8_ok nmX8 (by decide) (by decide) rfl w_249 rfl rfl rfl rfl (fun H locs hU hS => ?_)
  refine lv_aload_n hF.1 hF.2.1 dX8_rewind_5 rfl (lv_at hl 0 rfl) ?_
  have hM9 := (k_X8_step l E A (qsI u 806 0) h_length rfl)
  have hR9 := q_runV (l := l) (e := e0) (below := bl0) (meth := me0) (R := qR 1 0 0) (cells := 0) (slots := 0) (st0 := [.ref (E.2.2 899)]) (rest := []) hF hU hS hA 0 2 8 899 rfl rfl rfl hM9 w_710 w_711 w_712 w_101 w_713 (by decide +kernel) ⟨Nat.le_of_ble_eq_true rfl, Nat.le_of_ble_eq_true rfl⟩ dX8_rewind_6 rfl hl.1 rfl (Nat.le_of_ble_eq_true rfl) ⟨Nat.le_of_ble_eq_true rfl, Nat.le_of_ble_eq_true rfl⟩
  refine q_callv hR9 hU.2.2.2 hS (fun u_1 H locs hw_2 hU hS => ?_)
  rw [hw_2] at hU
  exact q_vret hF hr hlocks hU hS dX8_rewind_9 (rfl)
theorem k_X5_readBrief_r0  : (0 : Int32) = 0 := by
  first | rfl | (simp only [Int32.lt_iff_toInt_lt, Int32.le_iff_toInt_le, ← Int32.toInt_inj, Int32.zero_add, Int32.add_zero] at *; omega) | (simp only [Int32.lt_iff_toInt_lt, Int32.le_iff_toInt_le, ← Int32.toInt_inj, Int32.zero_add, Int32.add_zero] at *; done) | (simp only [Int32.lt_iff_toInt_lt, Int32.le_iff_toInt_le, ← Int32.toInt_inj, Int32.zero_add, Int32.add_zero] at *; simp at *; omega) | (simp at *; omega) | (simp_all; done)
set_option maxHeartbeats 400000 in
set_option maxRecDepth 100000 in
theorem k_X5_readBrief (l : Launch) (E : qE) (A : Nat → Prop) (u : qS) (h_length : u.1 801 = 0) : Met l yX5_readBrief (uws yX5_readBrief cX5_readBrief 3 (some .int)) (qR 2 0 0) (qPc E A 0 u [.ref (E.2.2 599)]) (qQi E A 0 (fun r u1 => u1 = qsI (qsI (qsI (qsI (qsI (qsI u 505 0) 503 0) 504 0) 806 0) 802 0) 803 1 ∧ r = 0)) 0 0 A := by
  refine q_met (own := RX5) (f := 2) [.ref (E.2.2 599)] (by decide) (Nat.le_of_ble_eq_true rfl) rfl ?_
  intro p0 e0 s0 m0 bl0 me0 cd0 ls hF hr hlocks hU hS hA hl
  have hl : lv_has ls 3 [(0, .ref (E.2.2 599))] := hl
  refine lv_aload_n hF.1 hF.2.1 dX5_readBrief_0 rfl (lv_at hl 0 rfl) ?_
  refine lv_iconst (v := 0) hF.1 hF.2.1 dX5_readBrief_1 (by decide) ?_
  refine q_put hF hU hS dX5_readBrief_2 3 5 5 505 599 rfl rfl rfl rfl inX5 tyX5 tyX5_ok nmX5 (by decide) (by decide) rfl w_277 rfl rfl rfl rfl (fun H locs hU hS => ?_)
  refine lv_aload_n hF.1 hF.2.1 dX5_readBrief_5 rfl (lv_at hl 0 rfl) ?_
  refine lv_iconst (v := 0) hF.1 hF.2.1 dX5_readBrief_6 (by decide) ?_
  refine q_put hF hU hS dX5_readBrief_7 3 5 3 503 599 rfl rfl rfl rfl inX5 tyX5 tyX5_ok nmX5 (by decide) (by decide) rfl w_275 rfl rfl rfl rfl (fun H locs hU hS => ?_)
  refine lv_aload_n hF.1 hF.2.1 dX5_readBrief_10 rfl (lv_at hl 0 rfl) ?_
  refine lv_iconst (v := 0) hF.1 hF.2.1 dX5_readBrief_11 (by decide) ?_
  refine q_put hF hU hS dX5_readBrief_12 3 5 4 504 599 rfl rfl rfl rfl inX5 tyX5 tyX5_ok nmX5 (by decide) (by decide) rfl w_276 rfl rfl rfl rfl (fun H locs hU hS => ?_)
  refine lv_aload_n hF.1 hF.2.1 dX5_readBrief_15 rfl (lv_at hl 0 rfl) ?_
  refine q_get (v := .ref (E.2.2 899)) hF hU dX5_readBrief_16 3 5 0 500 599 rfl rfl rfl rfl inX5 (by decide) (by decide) w_272 rfl rfl ?_
  have hM9 := (k_X8_rewind l E A (qsI (qsI (qsI u 505 0) 503 0) 504 0) h_length)
  have hR9 := q_runV (l := l) (e := e0) (below := bl0) (meth := me0) (R := qR 2 0 0) (cells := 0) (slots := 0) (st0 := [.ref (E.2.2 899)]) (rest := []) hF hU hS hA 0 2 8 899 rfl rfl rfl hM9 w_706 w_707 w_708 w_101 w_709 (by decide +kernel) ⟨Nat.le_of_ble_eq_true rfl, Nat.le_of_ble_eq_true rfl⟩ dX5_readBrief_19 rfl hl.1 rfl (Nat.le_of_ble_eq_true rfl) ⟨Nat.le_of_ble_eq_true rfl, Nat.le_of_ble_eq_true rfl⟩
  refine q_callv hR9 hU.2.2.2 hS (fun u_1 H locs hw_2 hU hS => ?_)
  rw [hw_2] at hU
  refine lv_iconst (v := 0) hF.1 hF.2.1 dX5_readBrief_22 (by decide) ?_
  refine lv_istore_n (lv' := [(1, .int 0), (0, .ref (E.2.2 599))]) hF.1 hF.2.1 dX5_readBrief_23 rfl hl (by decide) rfl (fun ls hl => ?_)
  refine lv_iload_n hF.1 hF.2.1 dX5_readBrief_24 rfl (lv_at hl 0 rfl) ?_
  refine lv_bipush (v := 16) hF.1 hF.2.1 dX5_readBrief_25 (by decide) ?_
  refine lv_icmp_gt (tgt := 160) hF.1 hF.2.1 dX5_readBrief_27 (by decide) (fun h9 => absurd h9 (by decide)) (fun _ => ?_)
  refine lv_aload_n hF.1 hF.2.1 dX5_readBrief_30 rfl (lv_at hl 1 rfl) ?_
  refine q_get (v := .int 0) hF hU dX5_readBrief_31 3 5 5 505 599 rfl rfl rfl rfl inX5 (by decide) (by decide) w_277 rfl rfl ?_
  refine lv_if_ne (tgt := 160) hF.1 hF.2.1 dX5_readBrief_34 (by decide) (fun h9 => absurd (by decide) h9) (fun _ => ?_)
  refine lv_aload_n hF.1 hF.2.1 dX5_readBrief_37 rfl (lv_at hl 1 rfl) ?_
  refine q_get (v := .ref (E.2.2 899)) hF hU dX5_readBrief_38 3 5 0 500 599 rfl rfl rfl rfl inX5 (by decide) (by decide) w_272 rfl rfl ?_
  refine q_get (v := .int 1) hF hU dX5_readBrief_41 2 8 3 803 899 rfl rfl rfl rfl inX8 (by decide) (by decide) w_243 rfl rfl ?_
  refine lv_iconst (v := 1) hF.1 hF.2.1 dX5_readBrief_44 (by decide) ?_
  refine lv_icmp_eq (tgt := 160) hF.1 hF.2.1 dX5_readBrief_45 (by decide) (fun _ => ?_) (fun h9 => absurd (by decide) h9)
  refine lv_aload_n hF.1 hF.2.1 dX5_readBrief_160 rfl (lv_at hl 1 rfl) ?_
  refine q_get (v := .int 0) hF hU dX5_readBrief_161 3 5 5 505 599 rfl rfl rfl rfl inX5 (by decide) (by decide) w_277 rfl rfl ?_
  exact q_iret hF hr rfl hlocks hU hS dX5_readBrief_164 (⟨rfl, k_X5_readBrief_r0⟩)
set_option maxHeartbeats 400000 in
set_option maxRecDepth 100000 in
theorem k_X5_codeRead (l : Launch) (E : qE) (A : Nat → Prop) (u : qS) (h_cl : u.1 504 = 0) : Met l yX5_codeRead (uws yX5_codeRead cX5_codeRead 1 (some (.array .int))) (qR 3 1 0) (qPc E A 0 u [.ref (E.2.2 599)]) (qQr E A 0 (fun u1 a => ∃ g, u1 = qsX u (u.2.2.2.2 ++ [(a, .inl (E.2.1 0, 0, .inl g))]))) 1 0 A := by
  refine q_met (own := RX5) (f := 3) [.ref (E.2.2 599)] (by decide) (Nat.le_of_ble_eq_true rfl) rfl ?_
  intro p0 e0 s0 m0 bl0 me0 cd0 ls hF hr hlocks hU hS hA hl
  have hl : lv_has ls 1 [(0, .ref (E.2.2 599))] := hl
  refine lv_aload_n hF.1 hF.2.1 dX5_codeRead_0 rfl (lv_at hl 0 rfl) ?_
  refine q_get (v := .ref (E.2.2 502)) hF hU dX5_codeRead_1 3 5 2 502 599 rfl rfl rfl rfl inX5 (by decide) (by decide) w_274 rfl rfl ?_
  refine lv_aload_n hF.1 hF.2.1 dX5_codeRead_4 rfl (lv_at hl 0 rfl) ?_
  refine q_get (v := .int 0) hF hU dX5_codeRead_5 3 5 4 504 599 rfl rfl rfl rfl inX5 (by decide) (by decide) w_276 rfl (congrArg Value.int h_cl) ?_
  have hM9 := (k_copyOf0 l E A u)
  have hR9 := q_runS (l := l) (e := e0) (below := bl0) (meth := me0) (R := qR 3 1 0) (cells := 0) (slots := 0) (st0 := [.int 0, .ref (E.2.2 502)]) (rest := []) hF hU hS hA 2 hM9 w_798 w_799 w_112 w_800 (by decide +kernel) ⟨Nat.le_of_ble_eq_true rfl, Nat.le_of_ble_eq_true rfl⟩ dX5_codeRead_8 rfl hl.1 rfl (Nat.le_of_ble_eq_true rfl) ⟨Nat.le_of_ble_eq_true rfl, Nat.le_of_ble_eq_true rfl⟩
  refine q_callr hR9 hU.2.2.2 hS (fun u_1 q_3 H locs hw_2 hU hS => ?_)
  obtain ⟨g_4, hw_2a⟩ := hw_2
  rw [hw_2a] at hU
  have hU : qH E A 0 (qsX u (u.2.2.2.2 ++ [(q_3, .inl (E.2.1 0, 0, .inl g_4))])) s0 H := hU
  exact q_aret hF hr (Or.inr ⟨_, rfl⟩) hlocks hU hS dX5_codeRead_11 (⟨_, rfl⟩)
set_option maxHeartbeats 400000 in
set_option maxRecDepth 100000 in
theorem k_X0_keepBrief (l : Launch) (E : qE) (A : Nat → Prop) (u : qS) (a1 dd : Nat) (vs : List Value) (h_briefCount : u.1 12 = 0) (h_b : u.2.2.2.2[dd]? = some (a1, .inr (1, vs))) : Met l yX0_keepBrief (uws yX0_keepBrief cX0_keepBrief 2 none) (qR 0 0 0) (qPc E A 0 u [.ref (E.2.2 99), .ref a1]) (qQv E A 0 (fun u1 => True)) 0 0 A := by
  refine q_met (own := RX0) (f := 0) [.ref (E.2.2 99), .ref a1] (by decide) (Nat.le_of_ble_eq_true rfl) rfl ?_
  intro p0 e0 s0 m0 bl0 me0 cd0 ls hF hr hlocks hU hS hA hl
  have hl : lv_has ls 2 [(0, .ref (E.2.2 99)), (1, .ref a1)] := hl
  refine lv_aload_n hF.1 hF.2.1 dX0_keepBrief_0 rfl (lv_at hl 0 rfl) ?_
  refine q_get (v := .ref (E.2.2 4)) hF hU dX0_keepBrief_1 1 0 4 4 99 rfl rfl rfl rfl inX0 (by decide) (by decide) w_156 rfl rfl ?_
  refine lv_aload_n hF.1 hF.2.1 dX0_keepBrief_4 rfl (lv_at hl 0 rfl) ?_
  refine q_get (v := .int 0) hF hU dX0_keepBrief_5 1 0 12 12 99 rfl rfl rfl rfl inX0 (by decide) (by decide) w_177 rfl (congrArg Value.int h_briefCount) ?_
  refine lv_aload_n hF.1 hF.2.1 dX0_keepBrief_8 rfl (lv_at hl 1 rfl) ?_
  refine q_aast hF hU hS dX0_keepBrief_9 4 4 7 rfl rfl (by decide) dd 1 h_b rfl rfl (q_in (by decide)) (fun f_b H locs hg hU hS => ?_)
  refine lv_aload_n hF.1 hF.2.1 dX0_keepBrief_10 rfl (lv_at hl 0 rfl) ?_
  refine lv_dup hF.1 hF.2.1 dX0_keepBrief_11 rfl ?_
  refine q_get (v := .int 0) hF hU dX0_keepBrief_12 1 0 12 12 99 rfl rfl rfl rfl inX0 (by decide) (by decide) w_177 rfl (congrArg Value.int h_briefCount) ?_
  refine lv_iconst (v := 1) hF.1 hF.2.1 dX0_keepBrief_15 (by decide) ?_
  refine lv_iadd hF.1 hF.2.1 dX0_keepBrief_16 ?_
  refine q_topi (y := 1) (by decide) ?_
  refine q_put hF hU hS dX0_keepBrief_17 1 0 12 12 99 rfl rfl rfl rfl inX0 tyX0 tyX0_ok nmX0 (by decide) (by decide) rfl w_177 rfl rfl rfl rfl (fun H locs hU hS => ?_)
  refine lv_aload_n hF.1 hF.2.1 dX0_keepBrief_20 rfl (lv_at hl 0 rfl) ?_
  refine lv_dup hF.1 hF.2.1 dX0_keepBrief_21 rfl ?_
  refine q_get (v := .int (u.1 18)) hF hU dX0_keepBrief_22 1 0 18 18 99 rfl rfl rfl rfl inX0 (by decide) (by decide) w_191 rfl rfl ?_
  refine lv_iconst (v := 1) hF.1 hF.2.1 dX0_keepBrief_25 (by decide) ?_
  refine lv_iadd hF.1 hF.2.1 dX0_keepBrief_26 ?_
  refine q_put hF hU hS dX0_keepBrief_27 1 0 18 18 99 rfl rfl rfl rfl inX0 tyX0 tyX0_ok nmX0 (by decide) (by decide) rfl w_191 rfl rfl rfl rfl (fun H locs hU hS => ?_)
  exact q_vret hF hr hlocks hU hS dX0_keepBrief_30 (trivial)
theorem k_X11_brief_r0 (x : Int32) (y : Int32) (b1_1 : 0 ≤ x ∧ x ≤ 3) (b8_2 : 0 ≤ y ∧ y ≤ 9999) : (((0 ≤ x ∧ x ≤ 3) ∧ (0 ≤ y ∧ y ≤ 9999)) ∧ (0 : Int32) = 0) ∨ (¬ ((0 ≤ x ∧ x ≤ 3) ∧ (0 ≤ y ∧ y ≤ 9999)) ∧ (0 : Int32) = (-1)) := by
  first | rfl | (simp only [Int32.lt_iff_toInt_lt, Int32.le_iff_toInt_le, ← Int32.toInt_inj, Int32.zero_add, Int32.add_zero] at *; omega) | (simp only [Int32.lt_iff_toInt_lt, Int32.le_iff_toInt_le, ← Int32.toInt_inj, Int32.zero_add, Int32.add_zero] at *; done) | (simp only [Int32.lt_iff_toInt_lt, Int32.le_iff_toInt_le, ← Int32.toInt_inj, Int32.zero_add, Int32.add_zero] at *; simp at *; omega) | (simp at *; omega) | (simp_all; done)
theorem k_X11_brief_r1 (x : Int32) (y : Int32) (b1_1 : 0 ≤ x ∧ x ≤ 3) (b8_2 : ¬ (0 ≤ y ∧ y ≤ 9999)) : (((0 ≤ x ∧ x ≤ 3) ∧ (0 ≤ y ∧ y ≤ 9999)) ∧ ((-1) : Int32) = 0) ∨ (¬ ((0 ≤ x ∧ x ≤ 3) ∧ (0 ≤ y ∧ y ≤ 9999)) ∧ ((-1) : Int32) = (-1)) := by
  first | rfl | (simp only [Int32.lt_iff_toInt_lt, Int32.le_iff_toInt_le, ← Int32.toInt_inj, Int32.zero_add, Int32.add_zero] at *; omega) | (simp only [Int32.lt_iff_toInt_lt, Int32.le_iff_toInt_le, ← Int32.toInt_inj, Int32.zero_add, Int32.add_zero] at *; done) | (simp only [Int32.lt_iff_toInt_lt, Int32.le_iff_toInt_le, ← Int32.toInt_inj, Int32.zero_add, Int32.add_zero] at *; simp at *; omega) | (simp at *; omega) | (simp_all; done)
theorem k_X11_brief_r2 (x : Int32) (y : Int32) (b1_1 : ¬ (0 ≤ x ∧ x ≤ 3)) : (((0 ≤ x ∧ x ≤ 3) ∧ (0 ≤ y ∧ y ≤ 9999)) ∧ ((-1) : Int32) = 0) ∨ (¬ ((0 ≤ x ∧ x ≤ 3) ∧ (0 ≤ y ∧ y ≤ 9999)) ∧ ((-1) : Int32) = (-1)) := by
  first | rfl | (simp only [Int32.lt_iff_toInt_lt, Int32.le_iff_toInt_le, ← Int32.toInt_inj, Int32.zero_add, Int32.add_zero] at *; omega) | (simp only [Int32.lt_iff_toInt_lt, Int32.le_iff_toInt_le, ← Int32.toInt_inj, Int32.zero_add, Int32.add_zero] at *; done) | (simp only [Int32.lt_iff_toInt_lt, Int32.le_iff_toInt_le, ← Int32.toInt_inj, Int32.zero_add, Int32.add_zero] at *; simp at *; omega) | (simp at *; omega) | (simp_all; done)
set_option maxHeartbeats 400000 in
set_option maxRecDepth 100000 in
theorem k_X11_brief (l : Launch) (E : qE) (A : Nat → Prop) (u : qS) (x : Int32) (y : Int32) (h_briefCount : u.1 12 = 0) (h_length : u.1 801 = 0) (h_now : u.1 13 = 0) : Met l yX11_brief (uws yX11_brief cX11_brief 4 (some .int)) (qR 6 2 4) (qPc E A 0 u [.ref (E.2.2 1199), .int x, .int y]) (qQi E A 0 (fun r _ => (((0 ≤ x ∧ x ≤ 3) ∧ (0 ≤ y ∧ y ≤ 9999)) ∧ r = 0) ∨ (¬ ((0 ≤ x ∧ x ≤ 3) ∧ (0 ≤ y ∧ y ≤ 9999)) ∧ r = (-1)))) 2 4 A := by
  refine q_met (own := RX11) (f := 6) [.ref (E.2.2 1199), .int x, .int y] (by decide) (Nat.le_of_ble_eq_true rfl) rfl ?_
  intro p0 e0 s0 m0 bl0 me0 cd0 ls hF hr hlocks hU hS hA hl
  have hl : lv_has ls 4 [(0, .ref (E.2.2 1199)), (1, .int x), (2, .int y)] := hl
  refine lv_iload_n hF.1 hF.2.1 dX11_brief_0 rfl (lv_at hl 1 rfl) ?_
  have hM9 := (k_X11_isChain l E A 0 u x)
  have hR9 := q_runS (l := l) (e := e0) (below := bl0) (meth := me0) (R := qR 6 2 4) (cells := 0) (slots := 0) (st0 := [.int x]) (rest := []) hF hU hS hA 1 hM9 w_494 w_495 w_99 w_496 (by decide +kernel) ⟨Nat.le_of_ble_eq_true rfl, Nat.le_of_ble_eq_true rfl⟩ dX11_brief_1 rfl hl.1 rfl (Nat.le_of_ble_eq_true rfl) ⟨Nat.le_of_ble_eq_true rfl, Nat.le_of_ble_eq_true rfl⟩
  refine q_calli hR9 hU.2.2.2 hS (fun r u1 H locs hw hU hS => ?_)
  obtain ⟨hu1, hw⟩ := hw
  rw [hu1] at hU
  rcases hw with ⟨rfl, b1_1⟩ | ⟨rfl, b1_1⟩
  · refine lv_if_eq (tgt := 26) hF.1 hF.2.1 dX11_brief_4 (by decide) (fun h9 => absurd h9 (by decide)) (fun _ => ?_)
    refine lv_iload_n hF.1 hF.2.1 dX11_brief_7 rfl (lv_at hl 2 rfl) ?_
    have hM9 := (k_X11_isDay l E A 0 u y)
    have hR9 := q_runS (l := l) (e := e0) (below := bl0) (meth := me0) (R := qR 6 2 4) (cells := 0) (slots := 0) (st0 := [.int y]) (rest := []) hF hU hS hA 1 hM9 w_699 w_700 w_99 w_701 (by decide +kernel) ⟨Nat.le_of_ble_eq_true rfl, Nat.le_of_ble_eq_true rfl⟩ dX11_brief_8 rfl hl.1 rfl (Nat.le_of_ble_eq_true rfl) ⟨Nat.le_of_ble_eq_true rfl, Nat.le_of_ble_eq_true rfl⟩
    refine q_calli hR9 hU.2.2.2 hS (fun r u1 H locs hw hU hS => ?_)
    obtain ⟨hu1, hw⟩ := hw
    rw [hu1] at hU
    rcases hw with ⟨rfl, b8_2⟩ | ⟨rfl, b8_2⟩
    · refine lv_if_eq (tgt := 26) hF.1 hF.2.1 dX11_brief_11 (by decide) (fun h9 => absurd h9 (by decide)) (fun _ => ?_)
      refine lv_aload_n hF.1 hF.2.1 dX11_brief_14 rfl (lv_at hl 0 rfl) ?_
      refine q_get (v := .ref (E.2.2 99)) hF hU dX11_brief_15 0 11 0 1100 1199 rfl rfl rfl rfl inX11 (by decide) (by decide) w_436 rfl rfl ?_
      refine q_get (v := .int 0) hF hU dX11_brief_18 1 0 12 12 99 rfl rfl rfl rfl inX0 (by decide) (by decide) w_176 rfl (congrArg Value.int h_briefCount) ?_
      refine lv_bipush (v := 16) hF.1 hF.2.1 dX11_brief_21 (by decide) ?_
      refine lv_icmp_lt (tgt := 36) hF.1 hF.2.1 dX11_brief_23 (by decide) (fun _ => ?_) (fun h9 => absurd (by decide) h9)
      refine lv_aload_n hF.1 hF.2.1 dX11_brief_36 rfl (lv_at hl 0 rfl) ?_
      refine q_get (v := .ref (E.2.2 599)) hF hU dX11_brief_37 0 11 2 1102 1199 rfl rfl rfl rfl inX11 (by decide) (by decide) w_438 rfl rfl ?_
      have hM9 := (k_X5_readBrief l E A u h_length)
      have hR9 := q_runV (l := l) (e := e0) (below := bl0) (meth := me0) (R := qR 6 2 4) (cells := 0) (slots := 0) (st0 := [.ref (E.2.2 599)]) (rest := []) hF hU hS hA 0 3 5 599 rfl rfl rfl hM9 w_702 w_703 w_704 w_102 w_705 (by decide +kernel) ⟨Nat.le_of_ble_eq_true rfl, Nat.le_of_ble_eq_true rfl⟩ dX11_brief_40 rfl hl.1 rfl (Nat.le_of_ble_eq_true rfl) ⟨Nat.le_of_ble_eq_true rfl, Nat.le_of_ble_eq_true rfl⟩
      refine q_calli hR9 hU.2.2.2 hS (fun r u1 H locs hw hU hS => ?_)
      rw [hw.1] at hU
      refine q_topi hw.2 ?_
      refine lv_istore_n (lv' := [(3, .int 0), (0, .ref (E.2.2 1199)), (1, .int x), (2, .int y)]) hF.1 hF.2.1 dX11_brief_43 rfl hl (by decide) rfl (fun ls hl => ?_)
      refine lv_aload_n hF.1 hF.2.1 dX11_brief_44 rfl (lv_at hl 1 rfl) ?_
      refine q_get (v := .ref (E.2.2 899)) hF hU dX11_brief_45 0 11 1 1101 1199 rfl rfl rfl rfl inX11 (by decide) (by decide) w_437 rfl rfl ?_
      refine lv_iconst (v := 0) hF.1 hF.2.1 dX11_brief_48 (by decide) ?_
      refine q_put hF hU hS dX11_brief_49 2 8 1 801 899 rfl rfl rfl rfl inX8 tyX8 tyX8_ok nmX8 (by decide) (by decide) rfl w_240 rfl rfl rfl rfl (fun H locs hU hS => ?_)
      refine lv_iload_n hF.1 hF.2.1 dX11_brief_52 rfl (lv_at hl 0 rfl) ?_
      refine lv_if_ne (tgt := 86) hF.1 hF.2.1 dX11_brief_53 (by decide) (fun h9 => absurd (by decide) h9) (fun _ => ?_)
      refine lv_aload_n hF.1 hF.2.1 dX11_brief_56 rfl (lv_at hl 1 rfl) ?_
      refine q_get (v := .ref (E.2.2 99)) hF hU dX11_brief_57 0 11 0 1100 1199 rfl rfl rfl rfl inX11 (by decide) (by decide) w_436 rfl rfl ?_
      refine q_new hF hU hS hA dX11_brief_60 1 rfl inX1 tyX1 tyX1_ok w_792 w_793 w_111 [.int 0, .int 0, .int 0, .null] (by decide) (Nat.le_of_ble_eq_true rfl) (Nat.le_of_ble_eq_true rfl) (fun q_3 H hU hS => ?_)
      have hU : qH E A 0 (qsX (qsI (qsI (qsI (qsI (qsI (qsI (qsI u 505 0) 503 0) 504 0) 806 0) 802 0) 803 1) 801 0) (u.2.2.2.2 ++ [(q_3, .inr (1, [.int 0, .int 0, .int 0, .null]))])) s0 H := hU
      refine lv_dup hF.1 hF.2.1 dX11_brief_63 rfl ?_
      refine lv_iload_n hF.1 hF.2.1 dX11_brief_64 rfl (lv_at hl 2 rfl) ?_
      refine lv_iload_n hF.1 hF.2.1 dX11_brief_65 rfl (lv_at hl 3 rfl) ?_
      refine lv_aload_n hF.1 hF.2.1 dX11_brief_66 rfl (lv_at hl 1 rfl) ?_
      refine q_get (v := .ref (E.2.2 99)) hF hU dX11_brief_67 0 11 0 1100 1199 rfl rfl rfl rfl inX11 (by decide) (by decide) w_436 rfl rfl ?_
      refine q_get (v := .int 0) hF hU dX11_brief_70 1 0 13 13 99 rfl rfl rfl rfl inX0 (by decide) (by decide) w_178 rfl (congrArg Value.int h_now) ?_
      refine lv_aload_n hF.1 hF.2.1 dX11_brief_73 rfl (lv_at hl 1 rfl) ?_
      refine q_get (v := .ref (E.2.2 599)) hF hU dX11_brief_74 0 11 2 1102 1199 rfl rfl rfl rfl inX11 (by decide) (by decide) w_438 rfl rfl ?_
      have hM9 := (k_X5_codeRead l E A (qsX (qsI (qsI (qsI (qsI (qsI (qsI (qsI u 505 0) 503 0) 504 0) 806 0) 802 0) 803 1) 801 0) (u.2.2.2.2 ++ [(q_3, .inr (1, [.int 0, .int 0, .int 0, .null]))])) rfl)
      have hR9 := q_runV (l := l) (e := e0) (below := bl0) (meth := me0) (R := qR 6 2 4) (cells := 1) (slots := 4) (st0 := [.ref (E.2.2 599), .int 0, .int y, .int x, .ref q_3, .ref q_3, .ref (E.2.2 99)]) (rest := [.int 0, .int y, .int x, .ref q_3, .ref q_3, .ref (E.2.2 99)]) hF hU hS hA 0 3 5 599 rfl rfl rfl hM9 w_794 w_795 w_796 w_102 w_797 (by decide +kernel) ⟨Nat.le_of_ble_eq_true rfl, Nat.le_of_ble_eq_true rfl⟩ dX11_brief_77 rfl hl.1 rfl (Nat.le_of_ble_eq_true rfl) ⟨Nat.le_of_ble_eq_true rfl, Nat.le_of_ble_eq_true rfl⟩
      refine q_callr hR9 hU.2.2.2 hS (fun u_4 q_6 H locs hw_5 hU hS => ?_)
      obtain ⟨g_7, hw_5a⟩ := hw_5
      rw [hw_5a] at hU
      have e7 : (u.2.2.2.2 ++ ([(q_3, .inr (1, [.int 0, .int 0, .int 0, .null]))] : va_W)) ++ [(q_6, .inl (E.2.1 0, 0, .inl g_7))] = u.2.2.2.2 ++ ([(q_3, .inr (1, [.int 0, .int 0, .int 0, .null])), (q_6, .inl (E.2.1 0, 0, .inl g_7))] : va_W) := List.append_assoc _ _ _
      have hU : qH E A 0 (qsX (qsI (qsI (qsI (qsI (qsI (qsI (qsI u 505 0) 503 0) 504 0) 806 0) 802 0) 803 1) 801 0) (u.2.2.2.2 ++ [(q_3, .inr (1, [.int 0, .int 0, .int 0, .null])), (q_6, .inl (E.2.1 0, 0, .inl g_7))])) s0 H := by
        have h : qH E A 0 (qsX (qsI (qsI (qsI (qsI (qsI (qsI (qsI u 505 0) 503 0) 504 0) 806 0) 802 0) 803 1) 801 0) ((u.2.2.2.2 ++ ([(q_3, .inr (1, [.int 0, .int 0, .int 0, .null]))] : va_W)) ++ [(q_6, .inl (E.2.1 0, 0, .inl g_7))])) s0 H := hU
        rw [e7] at h; exact h
      have hd9 : (qsX (qsI (qsI (qsI (qsI (qsI (qsI (qsI u 505 0) 503 0) 504 0) 806 0) 802 0) 803 1) 801 0) (u.2.2.2.2 ++ [(q_3, .inr (1, [.int 0, .int 0, .int 0, .null])), (q_6, .inl (E.2.1 0, 0, .inl g_7))])).2.2.2.2[u.2.2.2.2.length + 0]? = some (q_3, .inr (1, [.int 0, .int 0, .int 0, .null])) := q_cat (X := u.2.2.2.2) (C := [(q_3, .inr (1, [.int 0, .int 0, .int 0, .null])), (q_6, .inl (E.2.1 0, 0, .inl g_7))]) (m := 0) rfl rfl
      have hM9 := (k_X1_init l E A 0 (qsX (qsI (qsI (qsI (qsI (qsI (qsI (qsI u 505 0) 503 0) 504 0) 806 0) 802 0) 803 1) 801 0) (u.2.2.2.2 ++ [(q_3, .inr (1, [.int 0, .int 0, .int 0, .null])), (q_6, .inl (E.2.1 0, 0, .inl g_7))])) q_3 (u.2.2.2.2.length + 0) x y 0 q_6 hd9)
      have hR9 := q_runI (l := l) (e := e0) (below := bl0) (meth := me0) (R := qR 6 2 4) (cells := 2) (slots := 4) (st0 := [.ref q_6, .int 0, .int y, .int x, .ref q_3, .ref q_3, .ref (E.2.2 99)]) (rest := [.ref q_3, .ref (E.2.2 99)]) hF hU hS hA 4 hM9 w_814 w_815 w_111 w_816 rfl (by decide +kernel) ⟨Nat.le_of_ble_eq_true rfl, Nat.le_of_ble_eq_true rfl⟩ dX11_brief_80 rfl hl.1 rfl (Nat.le_of_ble_eq_true rfl) ⟨Nat.le_of_ble_eq_true rfl, Nat.le_of_ble_eq_true rfl⟩
      refine q_callv hR9 hU.2.2.2 hS (fun u_8 H locs hw_9 hU hS => ?_)
      have e9 : (u.2.2.2.2 ++ ([(q_3, .inr (1, [.int 0, .int 0, .int 0, .null])), (q_6, .inl (E.2.1 0, 0, .inl g_7))] : va_W)).set (u.2.2.2.2.length + 0) (q_3, .inr (1, [.int x, .int y, .int 0, .ref q_6])) ++ [] = u.2.2.2.2 ++ (([(q_3, .inr (1, [.int x, .int y, .int 0, .ref q_6])), (q_6, .inl (E.2.1 0, 0, .inl g_7))] : va_W) ++ []) := q_csub rfl rfl
      have e9 : (u.2.2.2.2 ++ ([(q_3, .inr (1, [.int 0, .int 0, .int 0, .null])), (q_6, .inl (E.2.1 0, 0, .inl g_7))] : va_W)).set (u.2.2.2.2.length + 0) (q_3, .inr (1, [.int x, .int y, .int 0, .ref q_6])) ++ [] = u.2.2.2.2 ++ ([(q_3, .inr (1, [.int x, .int y, .int 0, .ref q_6])), (q_6, .inl (E.2.1 0, 0, .inl g_7))] : va_W) := e9
      have hU : qH E A 0 (qsX (qsI (qsI (qsI (qsI (qsI (qsI (qsI u 505 0) 503 0) 504 0) 806 0) 802 0) 803 1) 801 0) (u.2.2.2.2 ++ [(q_3, .inr (1, [.int x, .int y, .int 0, .ref q_6])), (q_6, .inl (E.2.1 0, 0, .inl g_7))])) s0 H := by
        have h : qH E A 0 (qsX (qsI (qsI (qsI (qsI (qsI (qsI (qsI u 505 0) 503 0) 504 0) 806 0) 802 0) 803 1) 801 0) ((u.2.2.2.2 ++ ([(q_3, .inr (1, [.int 0, .int 0, .int 0, .null])), (q_6, .inl (E.2.1 0, 0, .inl g_7))] : va_W)).set (u.2.2.2.2.length + 0) (q_3, .inr (1, [.int x, .int y, .int 0, .ref q_6])) ++ [])) s0 H := by rw [hw_9] at hU; exact hU
        rw [e9] at h; exact h
      have hd9 : (qsX (qsI (qsI (qsI (qsI (qsI (qsI (qsI u 505 0) 503 0) 504 0) 806 0) 802 0) 803 1) 801 0) (u.2.2.2.2 ++ [(q_3, .inr (1, [.int x, .int y, .int 0, .ref q_6])), (q_6, .inl (E.2.1 0, 0, .inl g_7))])).2.2.2.2[u.2.2.2.2.length + 0]? = some (q_3, .inr (1, [.int x, .int y, .int 0, .ref q_6])) := q_cat (X := u.2.2.2.2) (C := [(q_3, .inr (1, [.int x, .int y, .int 0, .ref q_6])), (q_6, .inl (E.2.1 0, 0, .inl g_7))]) (m := 0) rfl rfl
      have hM9 := (k_X0_keepBrief l E A (qsX (qsI (qsI (qsI (qsI (qsI (qsI (qsI u 505 0) 503 0) 504 0) 806 0) 802 0) 803 1) 801 0) (u.2.2.2.2 ++ [(q_3, .inr (1, [.int x, .int y, .int 0, .ref q_6])), (q_6, .inl (E.2.1 0, 0, .inl g_7))])) q_3 (u.2.2.2.2.length + 0) [.int x, .int y, .int 0, .ref q_6] h_briefCount hd9)
      have hR9 := q_runV (l := l) (e := e0) (below := bl0) (meth := me0) (R := qR 6 2 4) (cells := 2) (slots := 4) (st0 := [.ref q_3, .ref (E.2.2 99)]) (rest := []) hF hU hS hA 1 1 0 99 rfl rfl rfl hM9 w_835 w_836 w_837 w_100 w_838 (by decide +kernel) ⟨Nat.le_of_ble_eq_true rfl, Nat.le_of_ble_eq_true rfl⟩ dX11_brief_83 rfl hl.1 rfl (Nat.le_of_ble_eq_true rfl) ⟨Nat.le_of_ble_eq_true rfl, Nat.le_of_ble_eq_true rfl⟩
      refine q_callv hR9 hU.2.2.2 hS (fun u_10 H locs hw_11 hU hS => ?_)
      refine lv_iload_n hF.1 hF.2.1 dX11_brief_86 rfl (lv_at hl 0 rfl) ?_
      exact q_iret hF hr rfl hlocks hU hS dX11_brief_87 (k_X11_brief_r0 x y b1_1 b8_2)
    · refine lv_if_eq (tgt := 26) hF.1 hF.2.1 dX11_brief_11 (by decide) (fun _ => ?_) (fun h9 => absurd (by decide) h9)
      refine lv_aload_n hF.1 hF.2.1 dX11_brief_26 rfl (lv_at hl 0 rfl) ?_
      refine q_get (v := .ref (E.2.2 899)) hF hU dX11_brief_27 0 11 1 1101 1199 rfl rfl rfl rfl inX11 (by decide) (by decide) w_437 rfl rfl ?_
      refine lv_iconst (v := 0) hF.1 hF.2.1 dX11_brief_30 (by decide) ?_
      refine q_put hF hU hS dX11_brief_31 2 8 1 801 899 rfl rfl rfl rfl inX8 tyX8 tyX8_ok nmX8 (by decide) (by decide) rfl w_240 rfl rfl rfl rfl (fun H locs hU hS => ?_)
      refine lv_iconst (v := (-1)) hF.1 hF.2.1 dX11_brief_34 (by decide) ?_
      refine W.widen (k := 2) (n := 4) (by decide) (by decide) ?_
      exact q_iret hF hr rfl hlocks hU hS dX11_brief_35 (k_X11_brief_r1 x y b1_1 b8_2)
  · refine lv_if_eq (tgt := 26) hF.1 hF.2.1 dX11_brief_4 (by decide) (fun _ => ?_) (fun h9 => absurd (by decide) h9)
    refine lv_aload_n hF.1 hF.2.1 dX11_brief_26 rfl (lv_at hl 0 rfl) ?_
    refine q_get (v := .ref (E.2.2 899)) hF hU dX11_brief_27 0 11 1 1101 1199 rfl rfl rfl rfl inX11 (by decide) (by decide) w_437 rfl rfl ?_
    refine lv_iconst (v := 0) hF.1 hF.2.1 dX11_brief_30 (by decide) ?_
    refine q_put hF hU hS dX11_brief_31 2 8 1 801 899 rfl rfl rfl rfl inX8 tyX8 tyX8_ok nmX8 (by decide) (by decide) rfl w_240 rfl rfl rfl rfl (fun H locs hU hS => ?_)
    refine lv_iconst (v := (-1)) hF.1 hF.2.1 dX11_brief_34 (by decide) ?_
    refine W.widen (k := 2) (n := 4) (by decide) (by decide) ?_
    exact q_iret hF hr rfl hlocks hU hS dX11_brief_35 (k_X11_brief_r2 x y b1_1)
set_option maxHeartbeats 400000 in
set_option maxRecDepth 100000 in
theorem k_X11_look (l : Launch) (hst : l.stackTraces = false) (E : qE) (A : Nat → Prop) (u : qS) (x : Int32) (y : Int32) (h_visitCount : u.1 10 = 0) : vx_Met l yX11_look (uws yX11_look cX11_look 4 (some .int)) (qR 9 1 6) (qPx E A 0 u [.ref (E.2.2 1199), .int x, .int y]) (qQi E A 0 (fun r u1 => False)) (qXC E A 0 (fun u1 => True)) 1 6 A := by
  refine q_metX (own := RX11) (f := 9) [.ref (E.2.2 1199), .int x, .int y] (by decide) (Nat.le_of_ble_eq_true rfl) rfl ?_
  intro p0 e0 s0 m0 bl0 me0 cd0 ls hF hr hlocks hex hXs hU hS hA hl
  have hl : lv_has ls 4 [(0, .ref (E.2.2 1199)), (1, .int x), (2, .int y)] := hl
  refine lv_aload_n hF.1 hF.2.1 dX11_look_0 rfl (lv_at hl 0 rfl) ?_
  refine q_get (v := .ref (E.2.2 99)) hF hU dX11_look_1 0 11 0 1100 1199 rfl rfl rfl rfl inX11 (by decide) (by decide) w_436 rfl rfl ?_
  refine lv_iload_n hF.1 hF.2.1 dX11_look_4 rfl (lv_at hl 1 rfl) ?_
  have hM9 := (k_X0_isKnown l E A u x h_visitCount)
  have hR9 := q_runV (l := l) (e := e0) (below := bl0) (meth := me0) (R := qR 9 1 6) (cells := 0) (slots := 0) (st0 := [.int x, .ref (E.2.2 99)]) (rest := []) hF hU hS hA 1 1 0 99 rfl rfl rfl hM9 w_1199 w_1200 w_1201 w_100 w_1202 (by decide +kernel) ⟨Nat.le_of_ble_eq_true rfl, Nat.le_of_ble_eq_true rfl⟩ dX11_look_5 rfl hl.1 rfl (Nat.le_of_ble_eq_true rfl) ⟨Nat.le_of_ble_eq_true rfl, Nat.le_of_ble_eq_true rfl⟩
  refine q_calli hR9 hU.2.2.2 hS (fun r u1 H locs hw hU hS => ?_)
  rw [hw.1] at hU
  refine q_topi hw.2 ?_
  refine lv_if_eq (tgt := 20) hF.1 hF.2.1 dX11_look_8 (by decide) (fun _ => ?_) (fun h9 => absurd (by decide) h9)
  exact q_throw hF hst hex hlocks hU hS hXs hXs.s212 hl.1 dX11_look_20 dX11_look_23 dX11_look_24 dX11_look_26 dX11_look_29 (by decide) (Nat.le_of_ble_eq_true rfl) (Nat.le_of_ble_eq_true rfl) (Nat.le_of_ble_eq_true rfl) (trivial)
set_option maxHeartbeats 400000 in
set_option maxRecDepth 100000 in
theorem k_X11_fair (l : Launch) (hst : l.stackTraces = false) (E : qE) (A : Nat → Prop) (u : qS) (x : Int32) (h_visitCount : u.1 10 = 0) : vx_Met l yX11_fair (uws yX11_fair cX11_fair 2 (some .int)) (qR 9 1 6) (qPx E A 0 u [.ref (E.2.2 1199), .int x]) (qQi E A 0 (fun r u1 => False)) (qXC E A 0 (fun u1 => True)) 1 6 A := by
  refine q_metX (own := RX11) (f := 9) [.ref (E.2.2 1199), .int x] (by decide) (Nat.le_of_ble_eq_true rfl) rfl ?_
  intro p0 e0 s0 m0 bl0 me0 cd0 ls hF hr hlocks hex hXs hU hS hA hl
  have hl : lv_has ls 2 [(0, .ref (E.2.2 1199)), (1, .int x)] := hl
  refine lv_aload_n hF.1 hF.2.1 dX11_fair_0 rfl (lv_at hl 0 rfl) ?_
  refine q_get (v := .ref (E.2.2 99)) hF hU dX11_fair_1 0 11 0 1100 1199 rfl rfl rfl rfl inX11 (by decide) (by decide) w_436 rfl rfl ?_
  refine lv_iload_n hF.1 hF.2.1 dX11_fair_4 rfl (lv_at hl 1 rfl) ?_
  have hM9 := (k_X0_isKnown l E A u x h_visitCount)
  have hR9 := q_runV (l := l) (e := e0) (below := bl0) (meth := me0) (R := qR 9 1 6) (cells := 0) (slots := 0) (st0 := [.int x, .ref (E.2.2 99)]) (rest := []) hF hU hS hA 1 1 0 99 rfl rfl rfl hM9 w_1199 w_1200 w_1201 w_100 w_1202 (by decide +kernel) ⟨Nat.le_of_ble_eq_true rfl, Nat.le_of_ble_eq_true rfl⟩ dX11_fair_5 rfl hl.1 rfl (Nat.le_of_ble_eq_true rfl) ⟨Nat.le_of_ble_eq_true rfl, Nat.le_of_ble_eq_true rfl⟩
  refine q_calli hR9 hU.2.2.2 hS (fun r u1 H locs hw hU hS => ?_)
  rw [hw.1] at hU
  refine q_topi hw.2 ?_
  refine lv_if_ne (tgt := 21) hF.1 hF.2.1 dX11_fair_8 (by decide) (fun h9 => absurd (by decide) h9) (fun _ => ?_)
  exact q_throw hF hst hex hlocks hU hS hXs hXs.s240 hl.1 dX11_fair_11 dX11_fair_14 dX11_fair_15 dX11_fair_17 dX11_fair_20 (by decide) (Nat.le_of_ble_eq_true rfl) (Nat.le_of_ble_eq_true rfl) (Nat.le_of_ble_eq_true rfl) (trivial)
set_option maxHeartbeats 400000 in
set_option maxRecDepth 100000 in
theorem k_X11_lean (l : Launch) (hst : l.stackTraces = false) (E : qE) (A : Nat → Prop) (u : qS) (x : Int32) (h_buyerCount : u.1 9 = 0) : vx_Met l yX11_lean (uws yX11_lean cX11_lean 2 (some .int)) (qR 9 1 6) (qPx E A 0 u [.ref (E.2.2 1199), .int x]) (qQi E A 0 (fun r u1 => False)) (qXC E A 0 (fun u1 => True)) 1 6 A := by
  refine q_metX (own := RX11) (f := 9) [.ref (E.2.2 1199), .int x] (by decide) (Nat.le_of_ble_eq_true rfl) rfl ?_
  intro p0 e0 s0 m0 bl0 me0 cd0 ls hF hr hlocks hex hXs hU hS hA hl
  have hl : lv_has ls 2 [(0, .ref (E.2.2 1199)), (1, .int x)] := hl
  refine lv_aload_n hF.1 hF.2.1 dX11_lean_0 rfl (lv_at hl 0 rfl) ?_
  refine q_get (v := .ref (E.2.2 99)) hF hU dX11_lean_1 0 11 0 1100 1199 rfl rfl rfl rfl inX11 (by decide) (by decide) w_436 rfl rfl ?_
  refine lv_iload_n hF.1 hF.2.1 dX11_lean_4 rfl (lv_at hl 1 rfl) ?_
  have hM9 := (k_X0_hasBuyer l E A u x h_buyerCount)
  have hR9 := q_runV (l := l) (e := e0) (below := bl0) (meth := me0) (R := qR 9 1 6) (cells := 0) (slots := 0) (st0 := [.int x, .ref (E.2.2 99)]) (rest := []) hF hU hS hA 1 1 0 99 rfl rfl rfl hM9 w_568 w_569 w_570 w_100 w_571 (by decide +kernel) ⟨Nat.le_of_ble_eq_true rfl, Nat.le_of_ble_eq_true rfl⟩ dX11_lean_5 rfl hl.1 rfl (Nat.le_of_ble_eq_true rfl) ⟨Nat.le_of_ble_eq_true rfl, Nat.le_of_ble_eq_true rfl⟩
  refine q_calli hR9 hU.2.2.2 hS (fun r u1 H locs hw hU hS => ?_)
  rw [hw.1] at hU
  refine q_topi hw.2 ?_
  refine lv_if_ne (tgt := 21) hF.1 hF.2.1 dX11_lean_8 (by decide) (fun h9 => absurd (by decide) h9) (fun _ => ?_)
  exact q_throw hF hst hex hlocks hU hS hXs hXs.s254 hl.1 dX11_lean_11 dX11_lean_14 dX11_lean_15 dX11_lean_17 dX11_lean_20 (by decide) (Nat.le_of_ble_eq_true rfl) (Nat.le_of_ble_eq_true rfl) (Nat.le_of_ble_eq_true rfl) (trivial)
set_option maxHeartbeats 400000 in
set_option maxRecDepth 100000 in
theorem k_X11_mean (l : Launch) (hst : l.stackTraces = false) (E : qE) (A : Nat → Prop) (u : qS) (x : Int32) (y : Int32) (z : Int32) (h_shopCount : u.1 8 = 0) (h_med : u.1 311 = 0) (h_bed : u.1 18 = 0) (h_visitCount : u.1 10 = 0) : vx_Met l yX11_mean (uws yX11_mean cX11_mean 4 (some .int)) (qR 9 1 6) (qPx E A 0 u [.ref (E.2.2 1199), .int x, .int y, .int z]) (qQi E A 0 (fun r u1 => False)) (qXC E A 0 (fun u1 => True)) 1 6 A := by
  refine q_metX (own := RX11) (f := 9) [.ref (E.2.2 1199), .int x, .int y, .int z] (by decide) (Nat.le_of_ble_eq_true rfl) rfl ?_
  intro p0 e0 s0 m0 bl0 me0 cd0 ls hF hr hlocks hex hXs hU hS hA hl
  have hl : lv_has ls 4 [(0, .ref (E.2.2 1199)), (1, .int x), (2, .int y), (3, .int z)] := hl
  refine lv_aload_n hF.1 hF.2.1 dX11_mean_0 rfl (lv_at hl 0 rfl) ?_
  refine q_get (v := .ref (E.2.2 399)) hF hU dX11_mean_1 0 11 5 1105 1199 rfl rfl rfl rfl inX11 (by decide) (by decide) w_441 rfl rfl ?_
  have hM9 := (k_X3_refresh l E A u h_med h_bed)
  have hR9 := q_runV (l := l) (e := e0) (below := bl0) (meth := me0) (R := qR 9 1 6) (cells := 0) (slots := 0) (st0 := [.ref (E.2.2 399)]) (rest := []) hF hU hS hA 0 6 3 399 rfl rfl rfl hM9 w_931 w_932 w_933 w_105 w_934 (by decide +kernel) ⟨Nat.le_of_ble_eq_true rfl, Nat.le_of_ble_eq_true rfl⟩ dX11_mean_4 rfl hl.1 rfl (Nat.le_of_ble_eq_true rfl) ⟨Nat.le_of_ble_eq_true rfl, Nat.le_of_ble_eq_true rfl⟩
  refine q_callv hR9 hU.2.2.2 hS (fun u_1 H locs hw_2 hU hS => ?_)
  rw [hw_2] at hU
  refine lv_aload_n hF.1 hF.2.1 dX11_mean_7 rfl (lv_at hl 0 rfl) ?_
  refine lv_iload_n hF.1 hF.2.1 dX11_mean_8 rfl (lv_at hl 1 rfl) ?_
  refine lv_iload_n hF.1 hF.2.1 dX11_mean_9 rfl (lv_at hl 2 rfl) ?_
  refine lv_iload_n hF.1 hF.2.1 dX11_mean_10 rfl (lv_at hl 3 rfl) ?_
  have hM9 := (k_X11_hasMean l E A u x y z h_shopCount)
  have hR9 := q_runV (l := l) (e := e0) (below := bl0) (meth := me0) (R := qR 9 1 6) (cells := 0) (slots := 0) (st0 := [.int z, .int y, .int x, .ref (E.2.2 1199)]) (rest := []) hF hU hS hA 3 0 11 1199 rfl rfl rfl hM9 w_1013 w_1015 w_35 w_99 w_1016 (by decide +kernel) ⟨Nat.le_of_ble_eq_true rfl, Nat.le_of_ble_eq_true rfl⟩ dX11_mean_11 rfl hl.1 rfl (Nat.le_of_ble_eq_true rfl) ⟨Nat.le_of_ble_eq_true rfl, Nat.le_of_ble_eq_true rfl⟩
  refine q_calli hR9 hU.2.2.2 hS (fun r u1 H locs hw hU hS => ?_)
  rw [hw.1] at hU
  refine q_topi hw.2 ?_
  refine lv_if_ne (tgt := 28) hF.1 hF.2.1 dX11_mean_14 (by decide) (fun h9 => absurd (by decide) h9) (fun _ => ?_)
  exact q_throwW hF hst hex hlocks hU hS hXs hXs.s271 hl.1 dX11_mean_17 dX11_mean_20 dX11_mean_21 dX11_mean_24 dX11_mean_27 (by decide) (Nat.le_of_ble_eq_true rfl) (Nat.le_of_ble_eq_true rfl) (Nat.le_of_ble_eq_true rfl) (trivial)
