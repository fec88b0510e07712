set_option maxRecDepth 100000 in
theorem g_X12_isAhead_g_v0 (u : qS) (x : Int32) (y : Int32) (k : qS) (hk : IK k u) (hx : 0 ≤ x ∧ x < u.1 1247) (hy : 0 ≤ y ∧ y < u.1 1247) (hys : u.1 1247 ≤ 120) : vp_in (x) 120 := by
  refine g_in ?_ ?_ <;> ((try simp only [g_m1, Int32.lt_iff_toInt_lt, Int32.le_iff_toInt_le, ← Int32.toInt_inj, Int32.toInt_add, Int32.toInt_sub, Int32.toInt_mul, Int32.toInt_neg, Int32.reduceToInt, g_bm, g_bm'] at *); omega)
set_option maxRecDepth 100000 in
theorem g_X12_isAhead_g_v1 (u : qS) (x : Int32) (y : Int32) (k : qS) (hk : IK k u) (hx : 0 ≤ x ∧ x < u.1 1247) (hy : 0 ≤ y ∧ y < u.1 1247) (hys : u.1 1247 ≤ 120) : vp_in (y) 120 := by
  refine g_in ?_ ?_ <;> ((try simp only [g_m1, Int32.lt_iff_toInt_lt, Int32.le_iff_toInt_le, ← Int32.toInt_inj, Int32.toInt_add, Int32.toInt_sub, Int32.toInt_mul, Int32.toInt_neg, Int32.reduceToInt, g_bm, g_bm'] at *); omega)
set_option maxRecDepth 100000 in
theorem g_X12_isAhead_g_v2 (u : qS) (x : Int32) (y : Int32) (k : qS) (hk : IK k u) (hx : 0 ≤ x ∧ x < u.1 1247) (hy : 0 ≤ y ∧ y < u.1 1247) (hys : u.1 1247 ≤ 120) : vp_in (x) 120 := by
  refine g_in ?_ ?_ <;> ((try simp only [g_m1, Int32.lt_iff_toInt_lt, Int32.le_iff_toInt_le, ← Int32.toInt_inj, Int32.toInt_add, Int32.toInt_sub, Int32.toInt_mul, Int32.toInt_neg, Int32.reduceToInt, g_bm, g_bm'] at *); omega)
set_option maxRecDepth 100000 in
theorem g_X12_isAhead_g_v3 (u : qS) (x : Int32) (y : Int32) (k : qS) (hk : IK k u) (hx : 0 ≤ x ∧ x < u.1 1247) (hy : 0 ≤ y ∧ y < u.1 1247) (hys : u.1 1247 ≤ 120) : vp_in (y) 120 := by
  refine g_in ?_ ?_ <;> ((try simp only [g_m1, Int32.lt_iff_toInt_lt, Int32.le_iff_toInt_le, ← Int32.toInt_inj, Int32.toInt_add, Int32.toInt_sub, Int32.toInt_mul, Int32.toInt_neg, Int32.reduceToInt, g_bm, g_bm'] at *); omega)
set_option maxRecDepth 100000 in
theorem g_X12_isAhead_g_v4 (u : qS) (x : Int32) (y : Int32) (k : qS) (hk : IK k u) (hx : 0 ≤ x ∧ x < u.1 1247) (hy : 0 ≤ y ∧ y < u.1 1247) (hys : u.1 1247 ≤ 120) (c30_1 : ((u.2.1 1250 (x : Int32).toNatClampNeg) - (u.2.1 1250 (y : Int32).toNatClampNeg) : Int32) < 0) : (1 = (1 : Int32) ∧ (d_ah k x y)) ∨ (1 = (0 : Int32) ∧ ¬ (d_ah k x y)) := by
  have k1250 := hk.r 1250 (by decide)
  have k1251 := hk.r 1251 (by decide)
  unfold d_ah; rw [← k1250, ← k1251]; clear hk k1250 k1251; first | exact Or.inl ⟨rfl, by (try simp only [g_m1, Int32.lt_iff_toInt_lt, Int32.le_iff_toInt_le, ← Int32.toInt_inj, Int32.reduceToInt] at *); omega⟩ | exact Or.inr ⟨rfl, by (try simp only [g_m1, Int32.lt_iff_toInt_lt, Int32.le_iff_toInt_le, ← Int32.toInt_inj, Int32.reduceToInt] at *); omega⟩
set_option maxRecDepth 100000 in
theorem g_X12_isAhead_g_v5 (u : qS) (x : Int32) (y : Int32) (k : qS) (hk : IK k u) (hx : 0 ≤ x ∧ x < u.1 1247) (hy : 0 ≤ y ∧ y < u.1 1247) (hys : u.1 1247 ≤ 120) (c30_1 : ¬ ((u.2.1 1250 (x : Int32).toNatClampNeg) - (u.2.1 1250 (y : Int32).toNatClampNeg) : Int32) < 0) (c34_2 : ¬ ((u.2.1 1250 (x : Int32).toNatClampNeg) - (u.2.1 1250 (y : Int32).toNatClampNeg) : Int32) = 0) : (0 = (1 : Int32) ∧ (d_ah k x y)) ∨ (0 = (0 : Int32) ∧ ¬ (d_ah k x y)) := by
  have k1250 := hk.r 1250 (by decide)
  have k1251 := hk.r 1251 (by decide)
  unfold d_ah; rw [← k1250, ← k1251]; clear hk k1250 k1251; first | exact Or.inl ⟨rfl, by (try simp only [g_m1, Int32.lt_iff_toInt_lt, Int32.le_iff_toInt_le, ← Int32.toInt_inj, Int32.reduceToInt] at *); omega⟩ | exact Or.inr ⟨rfl, by (try simp only [g_m1, Int32.lt_iff_toInt_lt, Int32.le_iff_toInt_le, ← Int32.toInt_inj, Int32.reduceToInt] at *); omega⟩
set_option maxRecDepth 100000 in
theorem g_X12_isAhead_g_v6 (u : qS) (x : Int32) (y : Int32) (k : qS) (hk : IK k u) (hx : 0 ≤ x ∧ x < u.1 1247) (hy : 0 ≤ y ∧ y < u.1 1247) (hys : u.1 1247 ≤ 120) (c30_1 : ¬ ((u.2.1 1250 (x : Int32).toNatClampNeg) - (u.2.1 1250 (y : Int32).toNatClampNeg) : Int32) < 0) (c34_2 : ((u.2.1 1250 (x : Int32).toNatClampNeg) - (u.2.1 1250 (y : Int32).toNatClampNeg) : Int32) = 0) (c39_3 : ((u.2.1 1251 (x : Int32).toNatClampNeg) - (u.2.1 1251 (y : Int32).toNatClampNeg) : Int32) < 0) : (1 = (1 : Int32) ∧ (d_ah k x y)) ∨ (1 = (0 : Int32) ∧ ¬ (d_ah k x y)) := by
  have k1250 := hk.r 1250 (by decide)
  have k1251 := hk.r 1251 (by decide)
  unfold d_ah; rw [← k1250, ← k1251]; clear hk k1250 k1251; first | exact Or.inl ⟨rfl, by (try simp only [g_m1, Int32.lt_iff_toInt_lt, Int32.le_iff_toInt_le, ← Int32.toInt_inj, Int32.reduceToInt] at *); omega⟩ | exact Or.inr ⟨rfl, by (try simp only [g_m1, Int32.lt_iff_toInt_lt, Int32.le_iff_toInt_le, ← Int32.toInt_inj, Int32.reduceToInt] at *); omega⟩
set_option maxRecDepth 100000 in
theorem g_X12_isAhead_g_v7 (u : qS) (x : Int32) (y : Int32) (k : qS) (hk : IK k u) (hx : 0 ≤ x ∧ x < u.1 1247) (hy : 0 ≤ y ∧ y < u.1 1247) (hys : u.1 1247 ≤ 120) (c30_1 : ¬ ((u.2.1 1250 (x : Int32).toNatClampNeg) - (u.2.1 1250 (y : Int32).toNatClampNeg) : Int32) < 0) (c34_2 : ((u.2.1 1250 (x : Int32).toNatClampNeg) - (u.2.1 1250 (y : Int32).toNatClampNeg) : Int32) = 0) (c39_3 : ¬ ((u.2.1 1251 (x : Int32).toNatClampNeg) - (u.2.1 1251 (y : Int32).toNatClampNeg) : Int32) < 0) (c44_4 : ¬ ((u.2.1 1251 (x : Int32).toNatClampNeg) - (u.2.1 1251 (y : Int32).toNatClampNeg) : Int32) = 0) : (0 = (1 : Int32) ∧ (d_ah k x y)) ∨ (0 = (0 : Int32) ∧ ¬ (d_ah k x y)) := by
  have k1250 := hk.r 1250 (by decide)
  have k1251 := hk.r 1251 (by decide)
  unfold d_ah; rw [← k1250, ← k1251]; clear hk k1250 k1251; first | exact Or.inl ⟨rfl, by (try simp only [g_m1, Int32.lt_iff_toInt_lt, Int32.le_iff_toInt_le, ← Int32.toInt_inj, Int32.reduceToInt] at *); omega⟩ | exact Or.inr ⟨rfl, by (try simp only [g_m1, Int32.lt_iff_toInt_lt, Int32.le_iff_toInt_le, ← Int32.toInt_inj, Int32.reduceToInt] at *); omega⟩
set_option maxRecDepth 100000 in
theorem g_X12_isAhead_g_v8 (u : qS) (x : Int32) (y : Int32) (k : qS) (hk : IK k u) (hx : 0 ≤ x ∧ x < u.1 1247) (hy : 0 ≤ y ∧ y < u.1 1247) (hys : u.1 1247 ≤ 120) (c30_1 : ¬ ((u.2.1 1250 (x : Int32).toNatClampNeg) - (u.2.1 1250 (y : Int32).toNatClampNeg) : Int32) < 0) (c34_2 : ((u.2.1 1250 (x : Int32).toNatClampNeg) - (u.2.1 1250 (y : Int32).toNatClampNeg) : Int32) = 0) (c39_3 : ¬ ((u.2.1 1251 (x : Int32).toNatClampNeg) - (u.2.1 1251 (y : Int32).toNatClampNeg) : Int32) < 0) (c44_4 : ((u.2.1 1251 (x : Int32).toNatClampNeg) - (u.2.1 1251 (y : Int32).toNatClampNeg) : Int32) = 0) (c49_5 : y ≤ (x : Int32)) : (0 = (1 : Int32) ∧ (d_ah k x y)) ∨ (0 = (0 : Int32) ∧ ¬ (d_ah k x y)) := by
  have k1250 := hk.r 1250 (by decide)
  have k1251 := hk.r 1251 (by decide)
  unfold d_ah; rw [← k1250, ← k1251]; clear hk k1250 k1251; first | exact Or.inl ⟨rfl, by (try simp only [g_m1, Int32.lt_iff_toInt_lt, Int32.le_iff_toInt_le, ← Int32.toInt_inj, Int32.reduceToInt] at *); omega⟩ | exact Or.inr ⟨rfl, by (try simp only [g_m1, Int32.lt_iff_toInt_lt, Int32.le_iff_toInt_le, ← Int32.toInt_inj, Int32.reduceToInt] at *); omega⟩
set_option maxRecDepth 100000 in
theorem g_X12_isAhead_g_v9 (u : qS) (x : Int32) (y : Int32) (k : qS) (hk : IK k u) (hx : 0 ≤ x ∧ x < u.1 1247) (hy : 0 ≤ y ∧ y < u.1 1247) (hys : u.1 1247 ≤ 120) (c30_1 : ¬ ((u.2.1 1250 (x : Int32).toNatClampNeg) - (u.2.1 1250 (y : Int32).toNatClampNeg) : Int32) < 0) (c34_2 : ((u.2.1 1250 (x : Int32).toNatClampNeg) - (u.2.1 1250 (y : Int32).toNatClampNeg) : Int32) = 0) (c39_3 : ¬ ((u.2.1 1251 (x : Int32).toNatClampNeg) - (u.2.1 1251 (y : Int32).toNatClampNeg) : Int32) < 0) (c44_4 : ((u.2.1 1251 (x : Int32).toNatClampNeg) - (u.2.1 1251 (y : Int32).toNatClampNeg) : Int32) = 0) (c49_5 : ¬ y ≤ (x : Int32)) : (1 = (1 : Int32) ∧ (d_ah k x y)) ∨ (1 = (0 : Int32) ∧ ¬ (d_ah k x y)) := by
  have k1250 := hk.r 1250 (by decide)
  have k1251 := hk.r 1251 (by decide)
  unfold d_ah; rw [← k1250, ← k1251]; clear hk k1250 k1251; first | exact Or.inl ⟨rfl, by (try simp only [g_m1, Int32.lt_iff_toInt_lt, Int32.le_iff_toInt_le, ← Int32.toInt_inj, Int32.reduceToInt] at *); omega⟩ | exact Or.inr ⟨rfl, by (try simp only [g_m1, Int32.lt_iff_toInt_lt, Int32.le_iff_toInt_le, ← Int32.toInt_inj, Int32.reduceToInt] at *); omega⟩
set_option maxHeartbeats 1000000 in
set_option maxRecDepth 100000 in
theorem g_X12_isAhead_g (l : Launch) (E : qE) (A : Nat → Prop) (u : qS) (x : Int32) (y : Int32) (k : qS) (hk : IK k u) (hx : 0 ≤ x ∧ x < u.1 1247) (hy : 0 ≤ y ∧ y < u.1 1247) (hys : u.1 1247 ≤ 120) : Met l yX12_isAhead (uws yX12_isAhead cX12_isAhead 5 (some .boolean)) (qR 0 0 0) (qPc E A 1 u [.ref (E.2.2 1299), .int x, .int y]) (qQi E A 1 (fun r u1 => u1 = u ∧ ((r = 1 ∧ (d_ah k x y)) ∨ (r = 0 ∧ ¬ (d_ah k x y))))) 0 0 A := by
  refine q_met (own := RX12) (f := 0) [.ref (E.2.2 1299), .int x, .int y] (by decide) (Nat.le_of_ble_eq_true rfl) rfl ?_
  intro p0 e0 s0 m0 bl0 me0 cd0 ls hF hr hlocks hU hS hA hl
  have hl : lv_has ls 5 [(0, .ref (E.2.2 1299)), (1, .int x), (2, .int y)] := hl
  refine lv_aload_n hF.1 hF.2.1 dX12_isAhead_0 rfl (lv_at hl 0 rfl) ?_
  refine q_get (v := .ref (E.2.2 1250)) hF hU dX12_isAhead_1 0 12 50 1250 1299 rfl rfl rfl rfl inX12 (by decide) (by decide) w_1379 rfl rfl ?_
  refine lv_iload_n hF.1 hF.2.1 dX12_isAhead_4 rfl (lv_at hl 1 rfl) ?_
  refine q_iald (v := u.2.1 1250 (x : Int32).toNatClampNeg) hF hU dX12_isAhead_5 29 1250 rfl rfl (g_X12_isAhead_g_v0 u x y k hk hx hy hys) rfl ?_
  refine lv_aload_n hF.1 hF.2.1 dX12_isAhead_6 rfl (lv_at hl 0 rfl) ?_
  refine q_get (v := .ref (E.2.2 1250)) hF hU dX12_isAhead_7 0 12 50 1250 1299 rfl rfl rfl rfl inX12 (by decide) (by decide) w_1379 rfl rfl ?_
  refine lv_iload_n hF.1 hF.2.1 dX12_isAhead_10 rfl (lv_at hl 2 rfl) ?_
  refine q_iald (v := u.2.1 1250 (y : Int32).toNatClampNeg) hF hU dX12_isAhead_11 29 1250 rfl rfl (g_X12_isAhead_g_v1 u x y k hk hx hy hys) rfl ?_
  refine lv_isub hF.1 hF.2.1 dX12_isAhead_12 ?_
  refine lv_istore_n (lv' := [(3, .int ((u.2.1 1250 (x : Int32).toNatClampNeg) - (u.2.1 1250 (y : Int32).toNatClampNeg))), (0, .ref (E.2.2 1299)), (1, .int x), (2, .int y)]) hF.1 hF.2.1 dX12_isAhead_13 rfl hl (by decide) rfl (fun ls hl => ?_)
  refine lv_aload_n hF.1 hF.2.1 dX12_isAhead_14 rfl (lv_at hl 1 rfl) ?_
  refine q_get (v := .ref (E.2.2 1251)) hF hU dX12_isAhead_15 0 12 51 1251 1299 rfl rfl rfl rfl inX12 (by decide) (by decide) w_1380 rfl rfl ?_
  refine lv_iload_n hF.1 hF.2.1 dX12_isAhead_18 rfl (lv_at hl 2 rfl) ?_
  refine q_iald (v := u.2.1 1251 (x : Int32).toNatClampNeg) hF hU dX12_isAhead_19 30 1251 rfl rfl (g_X12_isAhead_g_v2 u x y k hk hx hy hys) rfl ?_
  refine lv_aload_n hF.1 hF.2.1 dX12_isAhead_20 rfl (lv_at hl 1 rfl) ?_
  refine q_get (v := .ref (E.2.2 1251)) hF hU dX12_isAhead_21 0 12 51 1251 1299 rfl rfl rfl rfl inX12 (by decide) (by decide) w_1380 rfl rfl ?_
  refine lv_iload_n hF.1 hF.2.1 dX12_isAhead_24 rfl (lv_at hl 3 rfl) ?_
  refine q_iald (v := u.2.1 1251 (y : Int32).toNatClampNeg) hF hU dX12_isAhead_25 30 1251 rfl rfl (g_X12_isAhead_g_v3 u x y k hk hx hy hys) rfl ?_
  refine lv_isub hF.1 hF.2.1 dX12_isAhead_26 ?_
  refine lv_istore (lv' := [(4, .int ((u.2.1 1251 (x : Int32).toNatClampNeg) - (u.2.1 1251 (y : Int32).toNatClampNeg))), (3, .int ((u.2.1 1250 (x : Int32).toNatClampNeg) - (u.2.1 1250 (y : Int32).toNatClampNeg))), (0, .ref (E.2.2 1299)), (1, .int x), (2, .int y)]) hF.1 hF.2.1 dX12_isAhead_27 hl (by decide) rfl (fun ls hl => ?_)
  refine lv_iload_n hF.1 hF.2.1 dX12_isAhead_29 rfl (lv_at hl 1 rfl) ?_
  refine lv_if_lt (tgt := 52) hF.1 hF.2.1 dX12_isAhead_30 (by decide) (fun c30_1 => ?_) (fun c30_1 => ?_)
  · refine lv_iconst (v := 1) hF.1 hF.2.1 dX12_isAhead_52 (by decide) ?_
    refine lv_goto (tgt := 57) hF.1 hF.2.1 dX12_isAhead_53 (by decide) ?_
    exact q_iret hF hr (by decide) hlocks hU hS dX12_isAhead_57 ⟨rfl, (g_X12_isAhead_g_v4 u x y k hk hx hy hys c30_1)⟩
  · refine lv_iload_n hF.1 hF.2.1 dX12_isAhead_33 rfl (lv_at hl 1 rfl) ?_
    refine lv_if_ne (tgt := 56) hF.1 hF.2.1 dX12_isAhead_34 (by decide) (fun c34_2 => ?_) (fun c34_2 => ?_)
    · refine lv_iconst (v := 0) hF.1 hF.2.1 dX12_isAhead_56 (by decide) ?_
      exact q_iret hF hr (by decide) hlocks hU hS dX12_isAhead_57 ⟨rfl, (g_X12_isAhead_g_v5 u x y k hk hx hy hys c30_1 c34_2)⟩
    · refine lv_iload hF.1 hF.2.1 dX12_isAhead_37 (lv_at hl 0 rfl) ?_
      refine lv_if_lt (tgt := 52) hF.1 hF.2.1 dX12_isAhead_39 (by decide) (fun c39_3 => ?_) (fun c39_3 => ?_)
      · refine lv_iconst (v := 1) hF.1 hF.2.1 dX12_isAhead_52 (by decide) ?_
        refine lv_goto (tgt := 57) hF.1 hF.2.1 dX12_isAhead_53 (by decide) ?_
        exact q_iret hF hr (by decide) hlocks hU hS dX12_isAhead_57 ⟨rfl, (g_X12_isAhead_g_v6 u x y k hk hx hy hys c30_1 c34_2 c39_3)⟩
      · refine lv_iload hF.1 hF.2.1 dX12_isAhead_42 (lv_at hl 0 rfl) ?_
        refine lv_if_ne (tgt := 56) hF.1 hF.2.1 dX12_isAhead_44 (by decide) (fun c44_4 => ?_) (fun c44_4 => ?_)
        · refine lv_iconst (v := 0) hF.1 hF.2.1 dX12_isAhead_56 (by decide) ?_
          exact q_iret hF hr (by decide) hlocks hU hS dX12_isAhead_57 ⟨rfl, (g_X12_isAhead_g_v7 u x y k hk hx hy hys c30_1 c34_2 c39_3 c44_4)⟩
        · refine lv_iload_n hF.1 hF.2.1 dX12_isAhead_47 rfl (lv_at hl 3 rfl) ?_
          refine lv_iload_n hF.1 hF.2.1 dX12_isAhead_48 rfl (lv_at hl 4 rfl) ?_
          refine lv_icmp_ge (tgt := 56) hF.1 hF.2.1 dX12_isAhead_49 (by decide) (fun c49_5 => ?_) (fun c49_5 => ?_)
          · refine lv_iconst (v := 0) hF.1 hF.2.1 dX12_isAhead_56 (by decide) ?_
            exact q_iret hF hr (by decide) hlocks hU hS dX12_isAhead_57 ⟨rfl, (g_X12_isAhead_g_v8 u x y k hk hx hy hys c30_1 c34_2 c39_3 c44_4 c49_5)⟩
          · refine lv_iconst (v := 1) hF.1 hF.2.1 dX12_isAhead_52 (by decide) ?_
            refine lv_goto (tgt := 57) hF.1 hF.2.1 dX12_isAhead_53 (by decide) ?_
            exact q_iret hF hr (by decide) hlocks hU hS dX12_isAhead_57 ⟨rfl, (g_X12_isAhead_g_v9 u x y k hk hx hy hys c30_1 c34_2 c39_3 c44_4 c49_5)⟩
set_option maxRecDepth 100000 in
theorem g_X12_latest_g_v0 (u : qS) (x : Int32) (y : Int32) (k : qS) (x3 : Int32) (x4 : Int32) (hI : IM u) (hk : IK k u) (hy : y < u.1 1247) (h_k : 0 ≤ x4) (h_v : x4 ≤ u.1 1247) (h_f : -1 ≤ x3) (h_g : x3 < u.1 1247) (h_l : d_lx k x y x4.toNatClampNeg x3) (hs_1 : 0 ≤ u.1 1247 ∧ u.1 1247 ≤ 120) (c11_2 : (u.1 1247) ≤ (x4 : Int32)) : (-1 ≤ (x3 : Int32) ∧ (x3 : Int32) < u.1 1247) ∧ d_lz k x y (x3 : Int32) := by
  have e : x4 = u.1 1247 := Int32.toInt_inj.mp (by clear h_l hk; (try simp only [g_m1, Int32.lt_iff_toInt_lt, Int32.le_iff_toInt_le, ← Int32.toInt_inj, Int32.reduceToInt] at *); omega)
  rw [e, hk.i 1247 (by decide)] at h_l; exact ⟨⟨h_f, h_g⟩, h_l⟩
set_option maxRecDepth 100000 in
theorem g_X12_latest_g_v1 (u : qS) (x : Int32) (y : Int32) (k : qS) (x3 : Int32) (x4 : Int32) (hI : IM u) (hk : IK k u) (hy : y < u.1 1247) (h_k : 0 ≤ x4) (h_v : x4 ≤ u.1 1247) (h_f : -1 ≤ x3) (h_g : x3 < u.1 1247) (h_l : d_lx k x y x4.toNatClampNeg x3) (hs_1 : 0 ≤ u.1 1247 ∧ u.1 1247 ≤ 120) (c11_2 : ¬ (u.1 1247) ≤ (x4 : Int32)) (b17_6 : f_sn k x4) : vp_in (x4) 120 := by
  refine g_in ?_ ?_ <;> ((try simp only [g_m1, Int32.lt_iff_toInt_lt, Int32.le_iff_toInt_le, ← Int32.toInt_inj, Int32.toInt_add, Int32.toInt_sub, Int32.toInt_mul, Int32.toInt_neg, Int32.reduceToInt, g_bm, g_bm'] at *); omega)
set_option maxRecDepth 100000 in
theorem g_X12_latest_g_v2 (u : qS) (x : Int32) (y : Int32) (k : qS) (x3 : Int32) (x4 : Int32) (hI : IM u) (hk : IK k u) (hy : y < u.1 1247) (h_k : 0 ≤ x4) (h_v : x4 ≤ u.1 1247) (h_f : -1 ≤ x3) (h_g : x3 < u.1 1247) (h_l : d_lx k x y x4.toNatClampNeg x3) (hs_1 : 0 ≤ u.1 1247 ∧ u.1 1247 ≤ 120) (c11_2 : ¬ (u.1 1247) ≤ (x4 : Int32)) (b17_6 : f_sn k x4) : 0 ≤ x4 ∧ x4 < u.1 1247 := by
  first | omega | ((try simp only [g_m1, Int32.lt_iff_toInt_lt, Int32.le_iff_toInt_le, ← Int32.toInt_inj, Int32.reduceToInt] at *); omega) | ((try simp only [g_m1, Int32.lt_iff_toInt_lt, Int32.le_iff_toInt_le, ← Int32.toInt_inj, Int32.reduceToInt] at *); omega) | ((try simp only [g_m1, Int32.lt_iff_toInt_lt, Int32.le_iff_toInt_le, ← Int32.toInt_inj, Int32.toInt_add, Int32.toInt_sub, Int32.toInt_mul, Int32.toInt_neg, Int32.reduceToInt, g_bm, g_bm'] at *); omega) | (have qr1 := g_rng x; have qr2 := g_rng y; have qr4 := g_rng x3; have qr5 := g_rng x4; (try simp only [g_m1, Int32.lt_iff_toInt_lt, Int32.le_iff_toInt_le, ← Int32.toInt_inj, Int32.toInt_add, Int32.toInt_sub, Int32.toInt_mul, Int32.toInt_neg, Int32.reduceToInt, g_bm, g_bm'] at *); omega) | (simp only [g_m1, Int32.lt_iff_toInt_lt, Int32.le_iff_toInt_le, ← Int32.toInt_inj, Int32.toInt_add, Int32.toInt_sub, Int32.toInt_mul, Int32.toInt_neg, Int32.reduceToInt, g_bm, g_bm'] at *; simp at *; omega) | (simp_all; done)
set_option maxRecDepth 100000 in
theorem g_X12_latest_g_v3 (u : qS) (x : Int32) (y : Int32) (k : qS) (x3 : Int32) (x4 : Int32) (hI : IM u) (hk : IK k u) (hy : y < u.1 1247) (h_k : 0 ≤ x4) (h_v : x4 ≤ u.1 1247) (h_f : -1 ≤ x3) (h_g : x3 < u.1 1247) (h_l : d_lx k x y x4.toNatClampNeg x3) (hs_1 : 0 ≤ u.1 1247 ∧ u.1 1247 ≤ 120) (c11_2 : ¬ (u.1 1247) ≤ (x4 : Int32)) (b17_6 : f_sn k x4) (hb_7 : 0 ≤ (u.2.1 1248 (x4 : Int32).toNatClampNeg) ∧ (u.2.1 1248 (x4 : Int32).toNatClampNeg) < u.1 1232) (hs_8 : 0 ≤ u.1 1232 ∧ u.1 1232 ≤ 20) (c31_9 : ¬ (u.2.1 1248 (x4 : Int32).toNatClampNeg : Int32) = x) : 0 ≤ (x4 + 1) := by
  clear h_l hk; (try simp only [g_m1, Int32.lt_iff_toInt_lt, Int32.le_iff_toInt_le, ← Int32.toInt_inj, Int32.toInt_add, Int32.toInt_sub, Int32.toInt_mul, Int32.toInt_neg, Int32.reduceToInt, g_bm, g_bm'] at *); omega
set_option maxRecDepth 100000 in
theorem g_X12_latest_g_v4 (u : qS) (x : Int32) (y : Int32) (k : qS) (x3 : Int32) (x4 : Int32) (hI : IM u) (hk : IK k u) (hy : y < u.1 1247) (h_k : 0 ≤ x4) (h_v : x4 ≤ u.1 1247) (h_f : -1 ≤ x3) (h_g : x3 < u.1 1247) (h_l : d_lx k x y x4.toNatClampNeg x3) (hs_1 : 0 ≤ u.1 1247 ∧ u.1 1247 ≤ 120) (c11_2 : ¬ (u.1 1247) ≤ (x4 : Int32)) (b17_6 : f_sn k x4) (hb_7 : 0 ≤ (u.2.1 1248 (x4 : Int32).toNatClampNeg) ∧ (u.2.1 1248 (x4 : Int32).toNatClampNeg) < u.1 1232) (hs_8 : 0 ≤ u.1 1232 ∧ u.1 1232 ≤ 20) (c31_9 : ¬ (u.2.1 1248 (x4 : Int32).toNatClampNeg : Int32) = x) : (x4 + 1) ≤ u.1 1247 := by
  clear h_l hk; (try simp only [g_m1, Int32.lt_iff_toInt_lt, Int32.le_iff_toInt_le, ← Int32.toInt_inj, Int32.toInt_add, Int32.toInt_sub, Int32.toInt_mul, Int32.toInt_neg, Int32.reduceToInt, g_bm, g_bm'] at *); omega
set_option maxRecDepth 100000 in
theorem g_X12_latest_g_v5 (u : qS) (x : Int32) (y : Int32) (k : qS) (x3 : Int32) (x4 : Int32) (hI : IM u) (hk : IK k u) (hy : y < u.1 1247) (h_k : 0 ≤ x4) (h_v : x4 ≤ u.1 1247) (h_f : -1 ≤ x3) (h_g : x3 < u.1 1247) (h_l : d_lx k x y x4.toNatClampNeg x3) (hs_1 : 0 ≤ u.1 1247 ∧ u.1 1247 ≤ 120) (c11_2 : ¬ (u.1 1247) ≤ (x4 : Int32)) (b17_6 : f_sn k x4) (hb_7 : 0 ≤ (u.2.1 1248 (x4 : Int32).toNatClampNeg) ∧ (u.2.1 1248 (x4 : Int32).toNatClampNeg) < u.1 1232) (hs_8 : 0 ≤ u.1 1232 ∧ u.1 1232 ≤ 20) (c31_9 : ¬ (u.2.1 1248 (x4 : Int32).toNatClampNeg : Int32) = x) : -1 ≤ x3 := by
  clear h_l hk; (try simp only [g_m1, Int32.lt_iff_toInt_lt, Int32.le_iff_toInt_le, ← Int32.toInt_inj, Int32.toInt_add, Int32.toInt_sub, Int32.toInt_mul, Int32.toInt_neg, Int32.reduceToInt, g_bm, g_bm'] at *); omega
set_option maxRecDepth 100000 in
theorem g_X12_latest_g_v6 (u : qS) (x : Int32) (y : Int32) (k : qS) (x3 : Int32) (x4 : Int32) (hI : IM u) (hk : IK k u) (hy : y < u.1 1247) (h_k : 0 ≤ x4) (h_v : x4 ≤ u.1 1247) (h_f : -1 ≤ x3) (h_g : x3 < u.1 1247) (h_l : d_lx k x y x4.toNatClampNeg x3) (hs_1 : 0 ≤ u.1 1247 ∧ u.1 1247 ≤ 120) (c11_2 : ¬ (u.1 1247) ≤ (x4 : Int32)) (b17_6 : f_sn k x4) (hb_7 : 0 ≤ (u.2.1 1248 (x4 : Int32).toNatClampNeg) ∧ (u.2.1 1248 (x4 : Int32).toNatClampNeg) < u.1 1232) (hs_8 : 0 ≤ u.1 1232 ∧ u.1 1232 ≤ 20) (c31_9 : ¬ (u.2.1 1248 (x4 : Int32).toNatClampNeg : Int32) = x) : x3 < u.1 1247 := by
  clear h_l hk; (try simp only [g_m1, Int32.lt_iff_toInt_lt, Int32.le_iff_toInt_le, ← Int32.toInt_inj, Int32.toInt_add, Int32.toInt_sub, Int32.toInt_mul, Int32.toInt_neg, Int32.reduceToInt, g_bm, g_bm'] at *); omega
set_option maxRecDepth 100000 in
theorem g_X12_latest_g_v7 (u : qS) (x : Int32) (y : Int32) (k : qS) (x3 : Int32) (x4 : Int32) (hI : IM u) (hk : IK k u) (hy : y < u.1 1247) (h_k : 0 ≤ x4) (h_v : x4 ≤ u.1 1247) (h_f : -1 ≤ x3) (h_g : x3 < u.1 1247) (h_l : d_lx k x y x4.toNatClampNeg x3) (hs_1 : 0 ≤ u.1 1247 ∧ u.1 1247 ≤ 120) (c11_2 : ¬ (u.1 1247) ≤ (x4 : Int32)) (b17_6 : f_sn k x4) (hb_7 : 0 ≤ (u.2.1 1248 (x4 : Int32).toNatClampNeg) ∧ (u.2.1 1248 (x4 : Int32).toNatClampNeg) < u.1 1232) (hs_8 : 0 ≤ u.1 1232 ∧ u.1 1232 ≤ 20) (c31_9 : ¬ (u.2.1 1248 (x4 : Int32).toNatClampNeg : Int32) = x) : d_lx k x y (x4 + 1).toNatClampNeg x3 := by
  have q0 : 0 ≤ x4.toInt := (by clear h_l hk; (try simp only [g_m1, Int32.lt_iff_toInt_lt, Int32.le_iff_toInt_le, ← Int32.toInt_inj, Int32.reduceToInt] at *); omega)
  have q1 : x4.toInt < 120 := (by have q8 := hI.1.s1247; clear h_l hk; (try simp only [g_m1, Int32.lt_iff_toInt_lt, Int32.le_iff_toInt_le, ← Int32.toInt_inj, Int32.reduceToInt] at *); omega)
  have e4 := (g_up (i := x4) q0 (by omega)).2
  have eo := d_on q0
  rw [e4]
  have k1248 := hk.r 1248 (by decide)
  refine ⟨x3, h_l, ?_⟩
  unfold d_lm; rw [eo, ← k1248]
  first
  | exact Or.inl ⟨⟨⟨by assumption, by assumption⟩, by (first | exact Or.inl (by assumption) | exact Or.inr (by assumption))⟩, by (first | exact Or.inl (by assumption) | exact Or.inr (by assumption)), rfl⟩
  | exact Or.inr ⟨fun q => (by first | exact absurd q.1.1.1 (by assumption) | exact absurd q.1.1.2 (by assumption) | (rcases q.1.2 with w | w <;> exact absurd w (by assumption)) | (rcases q.2 with w | w <;> exact absurd w (by assumption))), rfl⟩
set_option maxRecDepth 100000 in
theorem g_X12_latest_g_v8 (u : qS) (x : Int32) (y : Int32) (k : qS) (x3 : Int32) (x4 : Int32) (hI : IM u) (hk : IK k u) (hy : y < u.1 1247) (h_k : 0 ≤ x4) (h_v : x4 ≤ u.1 1247) (h_f : -1 ≤ x3) (h_g : x3 < u.1 1247) (h_l : d_lx k x y x4.toNatClampNeg x3) (hs_1 : 0 ≤ u.1 1247 ∧ u.1 1247 ≤ 120) (c11_2 : ¬ (u.1 1247) ≤ (x4 : Int32)) (b17_6 : f_sn k x4) (hb_7 : 0 ≤ (u.2.1 1248 (x4 : Int32).toNatClampNeg) ∧ (u.2.1 1248 (x4 : Int32).toNatClampNeg) < u.1 1232) (hs_8 : 0 ≤ u.1 1232 ∧ u.1 1232 ≤ 20) (c31_9 : ¬ (u.2.1 1248 (x4 : Int32).toNatClampNeg : Int32) = x) : ((u.1 1247).toInt - (x4 + 1).toInt).toNat < ((u.1 1247).toInt - x4.toInt).toNat := by
  clear h_l hk; (try simp only [g_m1, Int32.lt_iff_toInt_lt, Int32.le_iff_toInt_le, ← Int32.toInt_inj, Int32.toInt_add, Int32.toInt_sub, Int32.toInt_mul, Int32.toInt_neg, Int32.reduceToInt, g_bm, g_bm'] at *); omega
set_option maxRecDepth 100000 in
theorem g_X12_latest_g_v9 (u : qS) (x : Int32) (y : Int32) (k : qS) (x3 : Int32) (x4 : Int32) (hI : IM u) (hk : IK k u) (hy : y < u.1 1247) (h_k : 0 ≤ x4) (h_v : x4 ≤ u.1 1247) (h_f : -1 ≤ x3) (h_g : x3 < u.1 1247) (h_l : d_lx k x y x4.toNatClampNeg x3) (hs_1 : 0 ≤ u.1 1247 ∧ u.1 1247 ≤ 120) (c11_2 : ¬ (u.1 1247) ≤ (x4 : Int32)) (b17_6 : f_sn k x4) (hb_7 : 0 ≤ (u.2.1 1248 (x4 : Int32).toNatClampNeg) ∧ (u.2.1 1248 (x4 : Int32).toNatClampNeg) < u.1 1232) (hs_8 : 0 ≤ u.1 1232 ∧ u.1 1232 ≤ 20) (c31_9 : (u.2.1 1248 (x4 : Int32).toNatClampNeg : Int32) = x) (c35_10 : (y : Int32) < 0) (c61_11 : (x3 : Int32) < 0) : 0 ≤ (x4 + 1) := by
  clear h_l hk; (try simp only [g_m1, Int32.lt_iff_toInt_lt, Int32.le_iff_toInt_le, ← Int32.toInt_inj, Int32.toInt_add, Int32.toInt_sub, Int32.toInt_mul, Int32.toInt_neg, Int32.reduceToInt, g_bm, g_bm'] at *); omega
set_option maxRecDepth 100000 in
theorem g_X12_latest_g_v10 (u : qS) (x : Int32) (y : Int32) (k : qS) (x3 : Int32) (x4 : Int32) (hI : IM u) (hk : IK k u) (hy : y < u.1 1247) (h_k : 0 ≤ x4) (h_v : x4 ≤ u.1 1247) (h_f : -1 ≤ x3) (h_g : x3 < u.1 1247) (h_l : d_lx k x y x4.toNatClampNeg x3) (hs_1 : 0 ≤ u.1 1247 ∧ u.1 1247 ≤ 120) (c11_2 : ¬ (u.1 1247) ≤ (x4 : Int32)) (b17_6 : f_sn k x4) (hb_7 : 0 ≤ (u.2.1 1248 (x4 : Int32).toNatClampNeg) ∧ (u.2.1 1248 (x4 : Int32).toNatClampNeg) < u.1 1232) (hs_8 : 0 ≤ u.1 1232 ∧ u.1 1232 ≤ 20) (c31_9 : (u.2.1 1248 (x4 : Int32).toNatClampNeg : Int32) = x) (c35_10 : (y : Int32) < 0) (c61_11 : (x3 : Int32) < 0) : (x4 + 1) ≤ u.1 1247 := by
  clear h_l hk; (try simp only [g_m1, Int32.lt_iff_toInt_lt, Int32.le_iff_toInt_le, ← Int32.toInt_inj, Int32.toInt_add, Int32.toInt_sub, Int32.toInt_mul, Int32.toInt_neg, Int32.reduceToInt, g_bm, g_bm'] at *); omega
set_option maxRecDepth 100000 in
theorem g_X12_latest_g_v11 (u : qS) (x : Int32) (y : Int32) (k : qS) (x3 : Int32) (x4 : Int32) (hI : IM u) (hk : IK k u) (hy : y < u.1 1247) (h_k : 0 ≤ x4) (h_v : x4 ≤ u.1 1247) (h_f : -1 ≤ x3) (h_g : x3 < u.1 1247) (h_l : d_lx k x y x4.toNatClampNeg x3) (hs_1 : 0 ≤ u.1 1247 ∧ u.1 1247 ≤ 120) (c11_2 : ¬ (u.1 1247) ≤ (x4 : Int32)) (b17_6 : f_sn k x4) (hb_7 : 0 ≤ (u.2.1 1248 (x4 : Int32).toNatClampNeg) ∧ (u.2.1 1248 (x4 : Int32).toNatClampNeg) < u.1 1232) (hs_8 : 0 ≤ u.1 1232 ∧ u.1 1232 ≤ 20) (c31_9 : (u.2.1 1248 (x4 : Int32).toNatClampNeg : Int32) = x) (c35_10 : (y : Int32) < 0) (c61_11 : (x3 : Int32) < 0) : -1 ≤ x4 := by
  clear h_l hk; (try simp only [g_m1, Int32.lt_iff_toInt_lt, Int32.le_iff_toInt_le, ← Int32.toInt_inj, Int32.toInt_add, Int32.toInt_sub, Int32.toInt_mul, Int32.toInt_neg, Int32.reduceToInt, g_bm, g_bm'] at *); omega
set_option maxRecDepth 100000 in
theorem g_X12_latest_g_v12 (u : qS) (x : Int32) (y : Int32) (k : qS) (x3 : Int32) (x4 : Int32) (hI : IM u) (hk : IK k u) (hy : y < u.1 1247) (h_k : 0 ≤ x4) (h_v : x4 ≤ u.1 1247) (h_f : -1 ≤ x3) (h_g : x3 < u.1 1247) (h_l : d_lx k x y x4.toNatClampNeg x3) (hs_1 : 0 ≤ u.1 1247 ∧ u.1 1247 ≤ 120) (c11_2 : ¬ (u.1 1247) ≤ (x4 : Int32)) (b17_6 : f_sn k x4) (hb_7 : 0 ≤ (u.2.1 1248 (x4 : Int32).toNatClampNeg) ∧ (u.2.1 1248 (x4 : Int32).toNatClampNeg) < u.1 1232) (hs_8 : 0 ≤ u.1 1232 ∧ u.1 1232 ≤ 20) (c31_9 : (u.2.1 1248 (x4 : Int32).toNatClampNeg : Int32) = x) (c35_10 : (y : Int32) < 0) (c61_11 : (x3 : Int32) < 0) : x4 < u.1 1247 := by
  clear h_l hk; (try simp only [g_m1, Int32.lt_iff_toInt_lt, Int32.le_iff_toInt_le, ← Int32.toInt_inj, Int32.toInt_add, Int32.toInt_sub, Int32.toInt_mul, Int32.toInt_neg, Int32.reduceToInt, g_bm, g_bm'] at *); omega
set_option maxRecDepth 100000 in
theorem g_X12_latest_g_v13 (u : qS) (x : Int32) (y : Int32) (k : qS) (x3 : Int32) (x4 : Int32) (hI : IM u) (hk : IK k u) (hy : y < u.1 1247) (h_k : 0 ≤ x4) (h_v : x4 ≤ u.1 1247) (h_f : -1 ≤ x3) (h_g : x3 < u.1 1247) (h_l : d_lx k x y x4.toNatClampNeg x3) (hs_1 : 0 ≤ u.1 1247 ∧ u.1 1247 ≤ 120) (c11_2 : ¬ (u.1 1247) ≤ (x4 : Int32)) (b17_6 : f_sn k x4) (hb_7 : 0 ≤ (u.2.1 1248 (x4 : Int32).toNatClampNeg) ∧ (u.2.1 1248 (x4 : Int32).toNatClampNeg) < u.1 1232) (hs_8 : 0 ≤ u.1 1232 ∧ u.1 1232 ≤ 20) (c31_9 : (u.2.1 1248 (x4 : Int32).toNatClampNeg : Int32) = x) (c35_10 : (y : Int32) < 0) (c61_11 : (x3 : Int32) < 0) : d_lx k x y (x4 + 1).toNatClampNeg x4 := by
  have q0 : 0 ≤ x4.toInt := (by clear h_l hk; (try simp only [g_m1, Int32.lt_iff_toInt_lt, Int32.le_iff_toInt_le, ← Int32.toInt_inj, Int32.reduceToInt] at *); omega)
  have q1 : x4.toInt < 120 := (by have q8 := hI.1.s1247; clear h_l hk; (try simp only [g_m1, Int32.lt_iff_toInt_lt, Int32.le_iff_toInt_le, ← Int32.toInt_inj, Int32.reduceToInt] at *); omega)
  have e4 := (g_up (i := x4) q0 (by omega)).2
  have eo := d_on q0
  rw [e4]
  have k1248 := hk.r 1248 (by decide)
  refine ⟨x3, h_l, ?_⟩
  unfold d_lm; rw [eo, ← k1248]
  first
  | exact Or.inl ⟨⟨⟨by assumption, by assumption⟩, by (first | exact Or.inl (by assumption) | exact Or.inr (by assumption))⟩, by (first | exact Or.inl (by assumption) | exact Or.inr (by assumption)), rfl⟩
  | exact Or.inr ⟨fun q => (by first | exact absurd q.1.1.1 (by assumption) | exact absurd q.1.1.2 (by assumption) | (rcases q.1.2 with w | w <;> exact absurd w (by assumption)) | (rcases q.2 with w | w <;> exact absurd w (by assumption))), rfl⟩
set_option maxRecDepth 100000 in
theorem g_X12_latest_g_v14 (u : qS) (x : Int32) (y : Int32) (k : qS) (x3 : Int32) (x4 : Int32) (hI : IM u) (hk : IK k u) (hy : y < u.1 1247) (h_k : 0 ≤ x4) (h_v : x4 ≤ u.1 1247) (h_f : -1 ≤ x3) (h_g : x3 < u.1 1247) (h_l : d_lx k x y x4.toNatClampNeg x3) (hs_1 : 0 ≤ u.1 1247 ∧ u.1 1247 ≤ 120) (c11_2 : ¬ (u.1 1247) ≤ (x4 : Int32)) (b17_6 : f_sn k x4) (hb_7 : 0 ≤ (u.2.1 1248 (x4 : Int32).toNatClampNeg) ∧ (u.2.1 1248 (x4 : Int32).toNatClampNeg) < u.1 1232) (hs_8 : 0 ≤ u.1 1232 ∧ u.1 1232 ≤ 20) (c31_9 : (u.2.1 1248 (x4 : Int32).toNatClampNeg : Int32) = x) (c35_10 : (y : Int32) < 0) (c61_11 : (x3 : Int32) < 0) : ((u.1 1247).toInt - (x4 + 1).toInt).toNat < ((u.1 1247).toInt - x4.toInt).toNat := by
  clear h_l hk; (try simp only [g_m1, Int32.lt_iff_toInt_lt, Int32.le_iff_toInt_le, ← Int32.toInt_inj, Int32.toInt_add, Int32.toInt_sub, Int32.toInt_mul, Int32.toInt_neg, Int32.reduceToInt, g_bm, g_bm'] at *); omega
set_option maxRecDepth 100000 in
theorem g_X12_latest_g_v15 (u : qS) (x : Int32) (y : Int32) (k : qS) (x3 : Int32) (x4 : Int32) (hI : IM u) (hk : IK k u) (hy : y < u.1 1247) (h_k : 0 ≤ x4) (h_v : x4 ≤ u.1 1247) (h_f : -1 ≤ x3) (h_g : x3 < u.1 1247) (h_l : d_lx k x y x4.toNatClampNeg x3) (hs_1 : 0 ≤ u.1 1247 ∧ u.1 1247 ≤ 120) (c11_2 : ¬ (u.1 1247) ≤ (x4 : Int32)) (b17_6 : f_sn k x4) (hb_7 : 0 ≤ (u.2.1 1248 (x4 : Int32).toNatClampNeg) ∧ (u.2.1 1248 (x4 : Int32).toNatClampNeg) < u.1 1232) (hs_8 : 0 ≤ u.1 1232 ∧ u.1 1232 ≤ 20) (c31_9 : (u.2.1 1248 (x4 : Int32).toNatClampNeg : Int32) = x) (c35_10 : (y : Int32) < 0) (c61_11 : ¬ (x3 : Int32) < 0) : 0 ≤ x3 ∧ x3 < (u.1 1247 : Int32) := by
  first | omega | ((try simp only [g_m1, Int32.lt_iff_toInt_lt, Int32.le_iff_toInt_le, ← Int32.toInt_inj, Int32.reduceToInt] at *); omega) | ((try simp only [g_m1, Int32.lt_iff_toInt_lt, Int32.le_iff_toInt_le, ← Int32.toInt_inj, Int32.reduceToInt] at *); omega) | ((try simp only [g_m1, Int32.lt_iff_toInt_lt, Int32.le_iff_toInt_le, ← Int32.toInt_inj, Int32.toInt_add, Int32.toInt_sub, Int32.toInt_mul, Int32.toInt_neg, Int32.reduceToInt, g_bm, g_bm'] at *); omega) | (have qr1 := g_rng x; have qr2 := g_rng y; have qr4 := g_rng x3; have qr5 := g_rng x4; (try simp only [g_m1, Int32.lt_iff_toInt_lt, Int32.le_iff_toInt_le, ← Int32.toInt_inj, Int32.toInt_add, Int32.toInt_sub, Int32.toInt_mul, Int32.toInt_neg, Int32.reduceToInt, g_bm, g_bm'] at *); omega) | (simp only [g_m1, Int32.lt_iff_toInt_lt, Int32.le_iff_toInt_le, ← Int32.toInt_inj, Int32.toInt_add, Int32.toInt_sub, Int32.toInt_mul, Int32.toInt_neg, Int32.reduceToInt, g_bm, g_bm'] at *; simp at *; omega) | (simp_all; done)
set_option maxRecDepth 100000 in
theorem g_X12_latest_g_v16 (u : qS) (x : Int32) (y : Int32) (k : qS) (x3 : Int32) (x4 : Int32) (hI : IM u) (hk : IK k u) (hy : y < u.1 1247) (h_k : 0 ≤ x4) (h_v : x4 ≤ u.1 1247) (h_f : -1 ≤ x3) (h_g : x3 < u.1 1247) (h_l : d_lx k x y x4.toNatClampNeg x3) (hs_1 : 0 ≤ u.1 1247 ∧ u.1 1247 ≤ 120) (c11_2 : ¬ (u.1 1247) ≤ (x4 : Int32)) (b17_6 : f_sn k x4) (hb_7 : 0 ≤ (u.2.1 1248 (x4 : Int32).toNatClampNeg) ∧ (u.2.1 1248 (x4 : Int32).toNatClampNeg) < u.1 1232) (hs_8 : 0 ≤ u.1 1232 ∧ u.1 1232 ≤ 20) (c31_9 : (u.2.1 1248 (x4 : Int32).toNatClampNeg : Int32) = x) (c35_10 : (y : Int32) < 0) (c61_11 : ¬ (x3 : Int32) < 0) : 0 ≤ x4 ∧ x4 < (u.1 1247 : Int32) := by
  first | omega | ((try simp only [g_m1, Int32.lt_iff_toInt_lt, Int32.le_iff_toInt_le, ← Int32.toInt_inj, Int32.reduceToInt] at *); omega) | ((try simp only [g_m1, Int32.lt_iff_toInt_lt, Int32.le_iff_toInt_le, ← Int32.toInt_inj, Int32.reduceToInt] at *); omega) | ((try simp only [g_m1, Int32.lt_iff_toInt_lt, Int32.le_iff_toInt_le, ← Int32.toInt_inj, Int32.toInt_add, Int32.toInt_sub, Int32.toInt_mul, Int32.toInt_neg, Int32.reduceToInt, g_bm, g_bm'] at *); omega) | (have qr1 := g_rng x; have qr2 := g_rng y; have qr4 := g_rng x3; have qr5 := g_rng x4; (try simp only [g_m1, Int32.lt_iff_toInt_lt, Int32.le_iff_toInt_le, ← Int32.toInt_inj, Int32.toInt_add, Int32.toInt_sub, Int32.toInt_mul, Int32.toInt_neg, Int32.reduceToInt, g_bm, g_bm'] at *); omega) | (simp only [g_m1, Int32.lt_iff_toInt_lt, Int32.le_iff_toInt_le, ← Int32.toInt_inj, Int32.toInt_add, Int32.toInt_sub, Int32.toInt_mul, Int32.toInt_neg, Int32.reduceToInt, g_bm, g_bm'] at *; simp at *; omega) | (simp_all; done)
set_option maxRecDepth 100000 in
theorem g_X12_latest_g_v17 (u : qS) (x : Int32) (y : Int32) (k : qS) (x3 : Int32) (x4 : Int32) (hI : IM u) (hk : IK k u) (hy : y < u.1 1247) (h_k : 0 ≤ x4) (h_v : x4 ≤ u.1 1247) (h_f : -1 ≤ x3) (h_g : x3 < u.1 1247) (h_l : d_lx k x y x4.toNatClampNeg x3) (hs_1 : 0 ≤ u.1 1247 ∧ u.1 1247 ≤ 120) (c11_2 : ¬ (u.1 1247) ≤ (x4 : Int32)) (b17_6 : f_sn k x4) (hb_7 : 0 ≤ (u.2.1 1248 (x4 : Int32).toNatClampNeg) ∧ (u.2.1 1248 (x4 : Int32).toNatClampNeg) < u.1 1232) (hs_8 : 0 ≤ u.1 1232 ∧ u.1 1232 ≤ 20) (c31_9 : (u.2.1 1248 (x4 : Int32).toNatClampNeg : Int32) = x) (c35_10 : (y : Int32) < 0) (c61_11 : ¬ (x3 : Int32) < 0) : (u.1 1247 : Int32) ≤ 120 := by
  first | omega | ((try simp only [g_m1, Int32.lt_iff_toInt_lt, Int32.le_iff_toInt_le, ← Int32.toInt_inj, Int32.reduceToInt] at *); omega) | ((try simp only [g_m1, Int32.lt_iff_toInt_lt, Int32.le_iff_toInt_le, ← Int32.toInt_inj, Int32.reduceToInt] at *); omega) | ((try simp only [g_m1, Int32.lt_iff_toInt_lt, Int32.le_iff_toInt_le, ← Int32.toInt_inj, Int32.toInt_add, Int32.toInt_sub, Int32.toInt_mul, Int32.toInt_neg, Int32.reduceToInt, g_bm, g_bm'] at *); omega) | (have qr1 := g_rng x; have qr2 := g_rng y; have qr4 := g_rng x3; have qr5 := g_rng x4; (try simp only [g_m1, Int32.lt_iff_toInt_lt, Int32.le_iff_toInt_le, ← Int32.toInt_inj, Int32.toInt_add, Int32.toInt_sub, Int32.toInt_mul, Int32.toInt_neg, Int32.reduceToInt, g_bm, g_bm'] at *); omega) | (simp only [g_m1, Int32.lt_iff_toInt_lt, Int32.le_iff_toInt_le, ← Int32.toInt_inj, Int32.toInt_add, Int32.toInt_sub, Int32.toInt_mul, Int32.toInt_neg, Int32.reduceToInt, g_bm, g_bm'] at *; simp at *; omega) | (simp_all; done)
set_option maxRecDepth 100000 in
theorem g_X12_latest_g_v18 (u : qS) (x : Int32) (y : Int32) (k : qS) (x3 : Int32) (x4 : Int32) (hI : IM u) (hk : IK k u) (hy : y < u.1 1247) (h_k : 0 ≤ x4) (h_v : x4 ≤ u.1 1247) (h_f : -1 ≤ x3) (h_g : x3 < u.1 1247) (h_l : d_lx k x y x4.toNatClampNeg x3) (hs_1 : 0 ≤ u.1 1247 ∧ u.1 1247 ≤ 120) (c11_2 : ¬ (u.1 1247) ≤ (x4 : Int32)) (b17_6 : f_sn k x4) (hb_7 : 0 ≤ (u.2.1 1248 (x4 : Int32).toNatClampNeg) ∧ (u.2.1 1248 (x4 : Int32).toNatClampNeg) < u.1 1232) (hs_8 : 0 ≤ u.1 1232 ∧ u.1 1232 ≤ 20) (c31_9 : (u.2.1 1248 (x4 : Int32).toNatClampNeg : Int32) = x) (c35_10 : (y : Int32) < 0) (c61_11 : ¬ (x3 : Int32) < 0) (b68_15 : d_ah k x3 x4) : 0 ≤ (x4 + 1) := by
  clear h_l hk; (try simp only [g_m1, Int32.lt_iff_toInt_lt, Int32.le_iff_toInt_le, ← Int32.toInt_inj, Int32.toInt_add, Int32.toInt_sub, Int32.toInt_mul, Int32.toInt_neg, Int32.reduceToInt, g_bm, g_bm'] at *); omega
set_option maxRecDepth 100000 in
theorem g_X12_latest_g_v19 (u : qS) (x : Int32) (y : Int32) (k : qS) (x3 : Int32) (x4 : Int32) (hI : IM u) (hk : IK k u) (hy : y < u.1 1247) (h_k : 0 ≤ x4) (h_v : x4 ≤ u.1 1247) (h_f : -1 ≤ x3) (h_g : x3 < u.1 1247) (h_l : d_lx k x y x4.toNatClampNeg x3) (hs_1 : 0 ≤ u.1 1247 ∧ u.1 1247 ≤ 120) (c11_2 : ¬ (u.1 1247) ≤ (x4 : Int32)) (b17_6 : f_sn k x4) (hb_7 : 0 ≤ (u.2.1 1248 (x4 : Int32).toNatClampNeg) ∧ (u.2.1 1248 (x4 : Int32).toNatClampNeg) < u.1 1232) (hs_8 : 0 ≤ u.1 1232 ∧ u.1 1232 ≤ 20) (c31_9 : (u.2.1 1248 (x4 : Int32).toNatClampNeg : Int32) = x) (c35_10 : (y : Int32) < 0) (c61_11 : ¬ (x3 : Int32) < 0) (b68_15 : d_ah k x3 x4) : (x4 + 1) ≤ u.1 1247 := by
  clear h_l hk; (try simp only [g_m1, Int32.lt_iff_toInt_lt, Int32.le_iff_toInt_le, ← Int32.toInt_inj, Int32.toInt_add, Int32.toInt_sub, Int32.toInt_mul, Int32.toInt_neg, Int32.reduceToInt, g_bm, g_bm'] at *); omega
set_option maxRecDepth 100000 in
theorem g_X12_latest_g_v20 (u : qS) (x : Int32) (y : Int32) (k : qS) (x3 : Int32) (x4 : Int32) (hI : IM u) (hk : IK k u) (hy : y < u.1 1247) (h_k : 0 ≤ x4) (h_v : x4 ≤ u.1 1247) (h_f : -1 ≤ x3) (h_g : x3 < u.1 1247) (h_l : d_lx k x y x4.toNatClampNeg x3) (hs_1 : 0 ≤ u.1 1247 ∧ u.1 1247 ≤ 120) (c11_2 : ¬ (u.1 1247) ≤ (x4 : Int32)) (b17_6 : f_sn k x4) (hb_7 : 0 ≤ (u.2.1 1248 (x4 : Int32).toNatClampNeg) ∧ (u.2.1 1248 (x4 : Int32).toNatClampNeg) < u.1 1232) (hs_8 : 0 ≤ u.1 1232 ∧ u.1 1232 ≤ 20) (c31_9 : (u.2.1 1248 (x4 : Int32).toNatClampNeg : Int32) = x) (c35_10 : (y : Int32) < 0) (c61_11 : ¬ (x3 : Int32) < 0) (b68_15 : d_ah k x3 x4) : -1 ≤ x4 := by
  clear h_l hk; (try simp only [g_m1, Int32.lt_iff_toInt_lt, Int32.le_iff_toInt_le, ← Int32.toInt_inj, Int32.toInt_add, Int32.toInt_sub, Int32.toInt_mul, Int32.toInt_neg, Int32.reduceToInt, g_bm, g_bm'] at *); omega
set_option maxRecDepth 100000 in
theorem g_X12_latest_g_v21 (u : qS) (x : Int32) (y : Int32) (k : qS) (x3 : Int32) (x4 : Int32) (hI : IM u) (hk : IK k u) (hy : y < u.1 1247) (h_k : 0 ≤ x4) (h_v : x4 ≤ u.1 1247) (h_f : -1 ≤ x3) (h_g : x3 < u.1 1247) (h_l : d_lx k x y x4.toNatClampNeg x3) (hs_1 : 0 ≤ u.1 1247 ∧ u.1 1247 ≤ 120) (c11_2 : ¬ (u.1 1247) ≤ (x4 : Int32)) (b17_6 : f_sn k x4) (hb_7 : 0 ≤ (u.2.1 1248 (x4 : Int32).toNatClampNeg) ∧ (u.2.1 1248 (x4 : Int32).toNatClampNeg) < u.1 1232) (hs_8 : 0 ≤ u.1 1232 ∧ u.1 1232 ≤ 20) (c31_9 : (u.2.1 1248 (x4 : Int32).toNatClampNeg : Int32) = x) (c35_10 : (y : Int32) < 0) (c61_11 : ¬ (x3 : Int32) < 0) (b68_15 : d_ah k x3 x4) : x4 < u.1 1247 := by
  clear h_l hk; (try simp only [g_m1, Int32.lt_iff_toInt_lt, Int32.le_iff_toInt_le, ← Int32.toInt_inj, Int32.toInt_add, Int32.toInt_sub, Int32.toInt_mul, Int32.toInt_neg, Int32.reduceToInt, g_bm, g_bm'] at *); omega
set_option maxRecDepth 100000 in
theorem g_X12_latest_g_v22 (u : qS) (x : Int32) (y : Int32) (k : qS) (x3 : Int32) (x4 : Int32) (hI : IM u) (hk : IK k u) (hy : y < u.1 1247) (h_k : 0 ≤ x4) (h_v : x4 ≤ u.1 1247) (h_f : -1 ≤ x3) (h_g : x3 < u.1 1247) (h_l : d_lx k x y x4.toNatClampNeg x3) (hs_1 : 0 ≤ u.1 1247 ∧ u.1 1247 ≤ 120) (c11_2 : ¬ (u.1 1247) ≤ (x4 : Int32)) (b17_6 : f_sn k x4) (hb_7 : 0 ≤ (u.2.1 1248 (x4 : Int32).toNatClampNeg) ∧ (u.2.1 1248 (x4 : Int32).toNatClampNeg) < u.1 1232) (hs_8 : 0 ≤ u.1 1232 ∧ u.1 1232 ≤ 20) (c31_9 : (u.2.1 1248 (x4 : Int32).toNatClampNeg : Int32) = x) (c35_10 : (y : Int32) < 0) (c61_11 : ¬ (x3 : Int32) < 0) (b68_15 : d_ah k x3 x4) : d_lx k x y (x4 + 1).toNatClampNeg x4 := by
  have q0 : 0 ≤ x4.toInt := (by clear h_l hk; (try simp only [g_m1, Int32.lt_iff_toInt_lt, Int32.le_iff_toInt_le, ← Int32.toInt_inj, Int32.reduceToInt] at *); omega)
  have q1 : x4.toInt < 120 := (by have q8 := hI.1.s1247; clear h_l hk; (try simp only [g_m1, Int32.lt_iff_toInt_lt, Int32.le_iff_toInt_le, ← Int32.toInt_inj, Int32.reduceToInt] at *); omega)
  have e4 := (g_up (i := x4) q0 (by omega)).2
  have eo := d_on q0
  rw [e4]
  have k1248 := hk.r 1248 (by decide)
  refine ⟨x3, h_l, ?_⟩
  unfold d_lm; rw [eo, ← k1248]
  first
  | exact Or.inl ⟨⟨⟨by assumption, by assumption⟩, by (first | exact Or.inl (by assumption) | exact Or.inr (by assumption))⟩, by (first | exact Or.inl (by assumption) | exact Or.inr (by assumption)), rfl⟩
  | exact Or.inr ⟨fun q => (by first | exact absurd q.1.1.1 (by assumption) | exact absurd q.1.1.2 (by assumption) | (rcases q.1.2 with w | w <;> exact absurd w (by assumption)) | (rcases q.2 with w | w <;> exact absurd w (by assumption))), rfl⟩
set_option maxRecDepth 100000 in
theorem g_X12_latest_g_v23 (u : qS) (x : Int32) (y : Int32) (k : qS) (x3 : Int32) (x4 : Int32) (hI : IM u) (hk : IK k u) (hy : y < u.1 1247) (h_k : 0 ≤ x4) (h_v : x4 ≤ u.1 1247) (h_f : -1 ≤ x3) (h_g : x3 < u.1 1247) (h_l : d_lx k x y x4.toNatClampNeg x3) (hs_1 : 0 ≤ u.1 1247 ∧ u.1 1247 ≤ 120) (c11_2 : ¬ (u.1 1247) ≤ (x4 : Int32)) (b17_6 : f_sn k x4) (hb_7 : 0 ≤ (u.2.1 1248 (x4 : Int32).toNatClampNeg) ∧ (u.2.1 1248 (x4 : Int32).toNatClampNeg) < u.1 1232) (hs_8 : 0 ≤ u.1 1232 ∧ u.1 1232 ≤ 20) (c31_9 : (u.2.1 1248 (x4 : Int32).toNatClampNeg : Int32) = x) (c35_10 : (y : Int32) < 0) (c61_11 : ¬ (x3 : Int32) < 0) (b68_15 : d_ah k x3 x4) : ((u.1 1247).toInt - (x4 + 1).toInt).toNat < ((u.1 1247).toInt - x4.toInt).toNat := by
  clear h_l hk; (try simp only [g_m1, Int32.lt_iff_toInt_lt, Int32.le_iff_toInt_le, ← Int32.toInt_inj, Int32.toInt_add, Int32.toInt_sub, Int32.toInt_mul, Int32.toInt_neg, Int32.reduceToInt, g_bm, g_bm'] at *); omega
set_option maxRecDepth 100000 in
theorem g_X12_latest_g_v24 (u : qS) (x : Int32) (y : Int32) (k : qS) (x3 : Int32) (x4 : Int32) (hI : IM u) (hk : IK k u) (hy : y < u.1 1247) (h_k : 0 ≤ x4) (h_v : x4 ≤ u.1 1247) (h_f : -1 ≤ x3) (h_g : x3 < u.1 1247) (h_l : d_lx k x y x4.toNatClampNeg x3) (hs_1 : 0 ≤ u.1 1247 ∧ u.1 1247 ≤ 120) (c11_2 : ¬ (u.1 1247) ≤ (x4 : Int32)) (b17_6 : f_sn k x4) (hb_7 : 0 ≤ (u.2.1 1248 (x4 : Int32).toNatClampNeg) ∧ (u.2.1 1248 (x4 : Int32).toNatClampNeg) < u.1 1232) (hs_8 : 0 ≤ u.1 1232 ∧ u.1 1232 ≤ 20) (c31_9 : (u.2.1 1248 (x4 : Int32).toNatClampNeg : Int32) = x) (c35_10 : (y : Int32) < 0) (c61_11 : ¬ (x3 : Int32) < 0) (b68_15 : ¬ (d_ah k x3 x4)) : 0 ≤ (x4 + 1) := by
  clear h_l hk; (try simp only [g_m1, Int32.lt_iff_toInt_lt, Int32.le_iff_toInt_le, ← Int32.toInt_inj, Int32.toInt_add, Int32.toInt_sub, Int32.toInt_mul, Int32.toInt_neg, Int32.reduceToInt, g_bm, g_bm'] at *); omega
set_option maxRecDepth 100000 in
theorem g_X12_latest_g_v25 (u : qS) (x : Int32) (y : Int32) (k : qS) (x3 : Int32) (x4 : Int32) (hI : IM u) (hk : IK k u) (hy : y < u.1 1247) (h_k : 0 ≤ x4) (h_v : x4 ≤ u.1 1247) (h_f : -1 ≤ x3) (h_g : x3 < u.1 1247) (h_l : d_lx k x y x4.toNatClampNeg x3) (hs_1 : 0 ≤ u.1 1247 ∧ u.1 1247 ≤ 120) (c11_2 : ¬ (u.1 1247) ≤ (x4 : Int32)) (b17_6 : f_sn k x4) (hb_7 : 0 ≤ (u.2.1 1248 (x4 : Int32).toNatClampNeg) ∧ (u.2.1 1248 (x4 : Int32).toNatClampNeg) < u.1 1232) (hs_8 : 0 ≤ u.1 1232 ∧ u.1 1232 ≤ 20) (c31_9 : (u.2.1 1248 (x4 : Int32).toNatClampNeg : Int32) = x) (c35_10 : (y : Int32) < 0) (c61_11 : ¬ (x3 : Int32) < 0) (b68_15 : ¬ (d_ah k x3 x4)) : (x4 + 1) ≤ u.1 1247 := by
  clear h_l hk; (try simp only [g_m1, Int32.lt_iff_toInt_lt, Int32.le_iff_toInt_le, ← Int32.toInt_inj, Int32.toInt_add, Int32.toInt_sub, Int32.toInt_mul, Int32.toInt_neg, Int32.reduceToInt, g_bm, g_bm'] at *); omega
set_option maxRecDepth 100000 in
theorem g_X12_latest_g_v26 (u : qS) (x : Int32) (y : Int32) (k : qS) (x3 : Int32) (x4 : Int32) (hI : IM u) (hk : IK k u) (hy : y < u.1 1247) (h_k : 0 ≤ x4) (h_v : x4 ≤ u.1 1247) (h_f : -1 ≤ x3) (h_g : x3 < u.1 1247) (h_l : d_lx k x y x4.toNatClampNeg x3) (hs_1 : 0 ≤ u.1 1247 ∧ u.1 1247 ≤ 120) (c11_2 : ¬ (u.1 1247) ≤ (x4 : Int32)) (b17_6 : f_sn k x4) (hb_7 : 0 ≤ (u.2.1 1248 (x4 : Int32).toNatClampNeg) ∧ (u.2.1 1248 (x4 : Int32).toNatClampNeg) < u.1 1232) (hs_8 : 0 ≤ u.1 1232 ∧ u.1 1232 ≤ 20) (c31_9 : (u.2.1 1248 (x4 : Int32).toNatClampNeg : Int32) = x) (c35_10 : (y : Int32) < 0) (c61_11 : ¬ (x3 : Int32) < 0) (b68_15 : ¬ (d_ah k x3 x4)) : -1 ≤ x3 := by
  clear h_l hk; (try simp only [g_m1, Int32.lt_iff_toInt_lt, Int32.le_iff_toInt_le, ← Int32.toInt_inj, Int32.toInt_add, Int32.toInt_sub, Int32.toInt_mul, Int32.toInt_neg, Int32.reduceToInt, g_bm, g_bm'] at *); omega
set_option maxRecDepth 100000 in
theorem g_X12_latest_g_v27 (u : qS) (x : Int32) (y : Int32) (k : qS) (x3 : Int32) (x4 : Int32) (hI : IM u) (hk : IK k u) (hy : y < u.1 1247) (h_k : 0 ≤ x4) (h_v : x4 ≤ u.1 1247) (h_f : -1 ≤ x3) (h_g : x3 < u.1 1247) (h_l : d_lx k x y x4.toNatClampNeg x3) (hs_1 : 0 ≤ u.1 1247 ∧ u.1 1247 ≤ 120) (c11_2 : ¬ (u.1 1247) ≤ (x4 : Int32)) (b17_6 : f_sn k x4) (hb_7 : 0 ≤ (u.2.1 1248 (x4 : Int32).toNatClampNeg) ∧ (u.2.1 1248 (x4 : Int32).toNatClampNeg) < u.1 1232) (hs_8 : 0 ≤ u.1 1232 ∧ u.1 1232 ≤ 20) (c31_9 : (u.2.1 1248 (x4 : Int32).toNatClampNeg : Int32) = x) (c35_10 : (y : Int32) < 0) (c61_11 : ¬ (x3 : Int32) < 0) (b68_15 : ¬ (d_ah k x3 x4)) : x3 < u.1 1247 := by
  clear h_l hk; (try simp only [g_m1, Int32.lt_iff_toInt_lt, Int32.le_iff_toInt_le, ← Int32.toInt_inj, Int32.toInt_add, Int32.toInt_sub, Int32.toInt_mul, Int32.toInt_neg, Int32.reduceToInt, g_bm, g_bm'] at *); omega
set_option maxRecDepth 100000 in
theorem g_X12_latest_g_v28 (u : qS) (x : Int32) (y : Int32) (k : qS) (x3 : Int32) (x4 : Int32) (hI : IM u) (hk : IK k u) (hy : y < u.1 1247) (h_k : 0 ≤ x4) (h_v : x4 ≤ u.1 1247) (h_f : -1 ≤ x3) (h_g : x3 < u.1 1247) (h_l : d_lx k x y x4.toNatClampNeg x3) (hs_1 : 0 ≤ u.1 1247 ∧ u.1 1247 ≤ 120) (c11_2 : ¬ (u.1 1247) ≤ (x4 : Int32)) (b17_6 : f_sn k x4) (hb_7 : 0 ≤ (u.2.1 1248 (x4 : Int32).toNatClampNeg) ∧ (u.2.1 1248 (x4 : Int32).toNatClampNeg) < u.1 1232) (hs_8 : 0 ≤ u.1 1232 ∧ u.1 1232 ≤ 20) (c31_9 : (u.2.1 1248 (x4 : Int32).toNatClampNeg : Int32) = x) (c35_10 : (y : Int32) < 0) (c61_11 : ¬ (x3 : Int32) < 0) (b68_15 : ¬ (d_ah k x3 x4)) : d_lx k x y (x4 + 1).toNatClampNeg x3 := by
  have q0 : 0 ≤ x4.toInt := (by clear h_l hk; (try simp only [g_m1, Int32.lt_iff_toInt_lt, Int32.le_iff_toInt_le, ← Int32.toInt_inj, Int32.reduceToInt] at *); omega)
  have q1 : x4.toInt < 120 := (by have q8 := hI.1.s1247; clear h_l hk; (try simp only [g_m1, Int32.lt_iff_toInt_lt, Int32.le_iff_toInt_le, ← Int32.toInt_inj, Int32.reduceToInt] at *); omega)
  have e4 := (g_up (i := x4) q0 (by omega)).2
  have eo := d_on q0
  rw [e4]
  have k1248 := hk.r 1248 (by decide)
  refine ⟨x3, h_l, ?_⟩
  unfold d_lm; rw [eo, ← k1248]
  first
  | exact Or.inl ⟨⟨⟨by assumption, by assumption⟩, by (first | exact Or.inl (by assumption) | exact Or.inr (by assumption))⟩, by (first | exact Or.inl (by assumption) | exact Or.inr (by assumption)), rfl⟩
  | exact Or.inr ⟨fun q => (by first | exact absurd q.1.1.1 (by assumption) | exact absurd q.1.1.2 (by assumption) | (rcases q.1.2 with w | w <;> exact absurd w (by assumption)) | (rcases q.2 with w | w <;> exact absurd w (by assumption))), rfl⟩
set_option maxRecDepth 100000 in
theorem g_X12_latest_g_v29 (u : qS) (x : Int32) (y : Int32) (k : qS) (x3 : Int32) (x4 : Int32) (hI : IM u) (hk : IK k u) (hy : y < u.1 1247) (h_k : 0 ≤ x4) (h_v : x4 ≤ u.1 1247) (h_f : -1 ≤ x3) (h_g : x3 < u.1 1247) (h_l : d_lx k x y x4.toNatClampNeg x3) (hs_1 : 0 ≤ u.1 1247 ∧ u.1 1247 ≤ 120) (c11_2 : ¬ (u.1 1247) ≤ (x4 : Int32)) (b17_6 : f_sn k x4) (hb_7 : 0 ≤ (u.2.1 1248 (x4 : Int32).toNatClampNeg) ∧ (u.2.1 1248 (x4 : Int32).toNatClampNeg) < u.1 1232) (hs_8 : 0 ≤ u.1 1232 ∧ u.1 1232 ≤ 20) (c31_9 : (u.2.1 1248 (x4 : Int32).toNatClampNeg : Int32) = x) (c35_10 : (y : Int32) < 0) (c61_11 : ¬ (x3 : Int32) < 0) (b68_15 : ¬ (d_ah k x3 x4)) : ((u.1 1247).toInt - (x4 + 1).toInt).toNat < ((u.1 1247).toInt - x4.toInt).toNat := by
  clear h_l hk; (try simp only [g_m1, Int32.lt_iff_toInt_lt, Int32.le_iff_toInt_le, ← Int32.toInt_inj, Int32.toInt_add, Int32.toInt_sub, Int32.toInt_mul, Int32.toInt_neg, Int32.reduceToInt, g_bm, g_bm'] at *); omega
set_option maxRecDepth 100000 in
theorem g_X12_latest_g_v30 (u : qS) (x : Int32) (y : Int32) (k : qS) (x3 : Int32) (x4 : Int32) (hI : IM u) (hk : IK k u) (hy : y < u.1 1247) (h_k : 0 ≤ x4) (h_v : x4 ≤ u.1 1247) (h_f : -1 ≤ x3) (h_g : x3 < u.1 1247) (h_l : d_lx k x y x4.toNatClampNeg x3) (hs_1 : 0 ≤ u.1 1247 ∧ u.1 1247 ≤ 120) (c11_2 : ¬ (u.1 1247) ≤ (x4 : Int32)) (b17_6 : f_sn k x4) (hb_7 : 0 ≤ (u.2.1 1248 (x4 : Int32).toNatClampNeg) ∧ (u.2.1 1248 (x4 : Int32).toNatClampNeg) < u.1 1232) (hs_8 : 0 ≤ u.1 1232 ∧ u.1 1232 ≤ 20) (c31_9 : (u.2.1 1248 (x4 : Int32).toNatClampNeg : Int32) = x) (c35_10 : ¬ (y : Int32) < 0) : 0 ≤ x4 ∧ x4 < (u.1 1247 : Int32) := by
  first | omega | ((try simp only [g_m1, Int32.lt_iff_toInt_lt, Int32.le_iff_toInt_le, ← Int32.toInt_inj, Int32.reduceToInt] at *); omega) | ((try simp only [g_m1, Int32.lt_iff_toInt_lt, Int32.le_iff_toInt_le, ← Int32.toInt_inj, Int32.reduceToInt] at *); omega) | ((try simp only [g_m1, Int32.lt_iff_toInt_lt, Int32.le_iff_toInt_le, ← Int32.toInt_inj, Int32.toInt_add, Int32.toInt_sub, Int32.toInt_mul, Int32.toInt_neg, Int32.reduceToInt, g_bm, g_bm'] at *); omega) | (have qr1 := g_rng x; have qr2 := g_rng y; have qr4 := g_rng x3; have qr5 := g_rng x4; (try simp only [g_m1, Int32.lt_iff_toInt_lt, Int32.le_iff_toInt_le, ← Int32.toInt_inj, Int32.toInt_add, Int32.toInt_sub, Int32.toInt_mul, Int32.toInt_neg, Int32.reduceToInt, g_bm, g_bm'] at *); omega) | (simp only [g_m1, Int32.lt_iff_toInt_lt, Int32.le_iff_toInt_le, ← Int32.toInt_inj, Int32.toInt_add, Int32.toInt_sub, Int32.toInt_mul, Int32.toInt_neg, Int32.reduceToInt, g_bm, g_bm'] at *; simp at *; omega) | (simp_all; done)
set_option maxRecDepth 100000 in
theorem g_X12_latest_g_v31 (u : qS) (x : Int32) (y : Int32) (k : qS) (x3 : Int32) (x4 : Int32) (hI : IM u) (hk : IK k u) (hy : y < u.1 1247) (h_k : 0 ≤ x4) (h_v : x4 ≤ u.1 1247) (h_f : -1 ≤ x3) (h_g : x3 < u.1 1247) (h_l : d_lx k x y x4.toNatClampNeg x3) (hs_1 : 0 ≤ u.1 1247 ∧ u.1 1247 ≤ 120) (c11_2 : ¬ (u.1 1247) ≤ (x4 : Int32)) (b17_6 : f_sn k x4) (hb_7 : 0 ≤ (u.2.1 1248 (x4 : Int32).toNatClampNeg) ∧ (u.2.1 1248 (x4 : Int32).toNatClampNeg) < u.1 1232) (hs_8 : 0 ≤ u.1 1232 ∧ u.1 1232 ≤ 20) (c31_9 : (u.2.1 1248 (x4 : Int32).toNatClampNeg : Int32) = x) (c35_10 : ¬ (y : Int32) < 0) : 0 ≤ y ∧ y < (u.1 1247 : Int32) := by
  first | omega | ((try simp only [g_m1, Int32.lt_iff_toInt_lt, Int32.le_iff_toInt_le, ← Int32.toInt_inj, Int32.reduceToInt] at *); omega) | ((try simp only [g_m1, Int32.lt_iff_toInt_lt, Int32.le_iff_toInt_le, ← Int32.toInt_inj, Int32.reduceToInt] at *); omega) | ((try simp only [g_m1, Int32.lt_iff_toInt_lt, Int32.le_iff_toInt_le, ← Int32.toInt_inj, Int32.toInt_add, Int32.toInt_sub, Int32.toInt_mul, Int32.toInt_neg, Int32.reduceToInt, g_bm, g_bm'] at *); omega) | (have qr1 := g_rng x; have qr2 := g_rng y; have qr4 := g_rng x3; have qr5 := g_rng x4; (try simp only [g_m1, Int32.lt_iff_toInt_lt, Int32.le_iff_toInt_le, ← Int32.toInt_inj, Int32.toInt_add, Int32.toInt_sub, Int32.toInt_mul, Int32.toInt_neg, Int32.reduceToInt, g_bm, g_bm'] at *); omega) | (simp only [g_m1, Int32.lt_iff_toInt_lt, Int32.le_iff_toInt_le, ← Int32.toInt_inj, Int32.toInt_add, Int32.toInt_sub, Int32.toInt_mul, Int32.toInt_neg, Int32.reduceToInt, g_bm, g_bm'] at *; simp at *; omega) | (simp_all; done)
set_option maxRecDepth 100000 in
theorem g_X12_latest_g_v32 (u : qS) (x : Int32) (y : Int32) (k : qS) (x3 : Int32) (x4 : Int32) (hI : IM u) (hk : IK k u) (hy : y < u.1 1247) (h_k : 0 ≤ x4) (h_v : x4 ≤ u.1 1247) (h_f : -1 ≤ x3) (h_g : x3 < u.1 1247) (h_l : d_lx k x y x4.toNatClampNeg x3) (hs_1 : 0 ≤ u.1 1247 ∧ u.1 1247 ≤ 120) (c11_2 : ¬ (u.1 1247) ≤ (x4 : Int32)) (b17_6 : f_sn k x4) (hb_7 : 0 ≤ (u.2.1 1248 (x4 : Int32).toNatClampNeg) ∧ (u.2.1 1248 (x4 : Int32).toNatClampNeg) < u.1 1232) (hs_8 : 0 ≤ u.1 1232 ∧ u.1 1232 ≤ 20) (c31_9 : (u.2.1 1248 (x4 : Int32).toNatClampNeg : Int32) = x) (c35_10 : ¬ (y : Int32) < 0) : (u.1 1247 : Int32) ≤ 120 := by
  first | omega | ((try simp only [g_m1, Int32.lt_iff_toInt_lt, Int32.le_iff_toInt_le, ← Int32.toInt_inj, Int32.reduceToInt] at *); omega) | ((try simp only [g_m1, Int32.lt_iff_toInt_lt, Int32.le_iff_toInt_le, ← Int32.toInt_inj, Int32.reduceToInt] at *); omega) | ((try simp only [g_m1, Int32.lt_iff_toInt_lt, Int32.le_iff_toInt_le, ← Int32.toInt_inj, Int32.toInt_add, Int32.toInt_sub, Int32.toInt_mul, Int32.toInt_neg, Int32.reduceToInt, g_bm, g_bm'] at *); omega) | (have qr1 := g_rng x; have qr2 := g_rng y; have qr4 := g_rng x3; have qr5 := g_rng x4; (try simp only [g_m1, Int32.lt_iff_toInt_lt, Int32.le_iff_toInt_le, ← Int32.toInt_inj, Int32.toInt_add, Int32.toInt_sub, Int32.toInt_mul, Int32.toInt_neg, Int32.reduceToInt, g_bm, g_bm'] at *); omega) | (simp only [g_m1, Int32.lt_iff_toInt_lt, Int32.le_iff_toInt_le, ← Int32.toInt_inj, Int32.toInt_add, Int32.toInt_sub, Int32.toInt_mul, Int32.toInt_neg, Int32.reduceToInt, g_bm, g_bm'] at *; simp at *; omega) | (simp_all; done)
set_option maxRecDepth 100000 in
theorem g_X12_latest_g_v33 (u : qS) (x : Int32) (y : Int32) (k : qS) (x3 : Int32) (x4 : Int32) (hI : IM u) (hk : IK k u) (hy : y < u.1 1247) (h_k : 0 ≤ x4) (h_v : x4 ≤ u.1 1247) (h_f : -1 ≤ x3) (h_g : x3 < u.1 1247) (h_l : d_lx k x y x4.toNatClampNeg x3) (hs_1 : 0 ≤ u.1 1247 ∧ u.1 1247 ≤ 120) (c11_2 : ¬ (u.1 1247) ≤ (x4 : Int32)) (b17_6 : f_sn k x4) (hb_7 : 0 ≤ (u.2.1 1248 (x4 : Int32).toNatClampNeg) ∧ (u.2.1 1248 (x4 : Int32).toNatClampNeg) < u.1 1232) (hs_8 : 0 ≤ u.1 1232 ∧ u.1 1232 ≤ 20) (c31_9 : (u.2.1 1248 (x4 : Int32).toNatClampNeg : Int32) = x) (c35_10 : ¬ (y : Int32) < 0) (b42_19 : d_ah k x4 y) (c61_20 : (x3 : Int32) < 0) : 0 ≤ (x4 + 1) := by
  clear h_l hk; (try simp only [g_m1, Int32.lt_iff_toInt_lt, Int32.le_iff_toInt_le, ← Int32.toInt_inj, Int32.toInt_add, Int32.toInt_sub, Int32.toInt_mul, Int32.toInt_neg, Int32.reduceToInt, g_bm, g_bm'] at *); omega
set_option maxRecDepth 100000 in
theorem g_X12_latest_g_v34 (u : qS) (x : Int32) (y : Int32) (k : qS) (x3 : Int32) (x4 : Int32) (hI : IM u) (hk : IK k u) (hy : y < u.1 1247) (h_k : 0 ≤ x4) (h_v : x4 ≤ u.1 1247) (h_f : -1 ≤ x3) (h_g : x3 < u.1 1247) (h_l : d_lx k x y x4.toNatClampNeg x3) (hs_1 : 0 ≤ u.1 1247 ∧ u.1 1247 ≤ 120) (c11_2 : ¬ (u.1 1247) ≤ (x4 : Int32)) (b17_6 : f_sn k x4) (hb_7 : 0 ≤ (u.2.1 1248 (x4 : Int32).toNatClampNeg) ∧ (u.2.1 1248 (x4 : Int32).toNatClampNeg) < u.1 1232) (hs_8 : 0 ≤ u.1 1232 ∧ u.1 1232 ≤ 20) (c31_9 : (u.2.1 1248 (x4 : Int32).toNatClampNeg : Int32) = x) (c35_10 : ¬ (y : Int32) < 0) (b42_19 : d_ah k x4 y) (c61_20 : (x3 : Int32) < 0) : (x4 + 1) ≤ u.1 1247 := by
  clear h_l hk; (try simp only [g_m1, Int32.lt_iff_toInt_lt, Int32.le_iff_toInt_le, ← Int32.toInt_inj, Int32.toInt_add, Int32.toInt_sub, Int32.toInt_mul, Int32.toInt_neg, Int32.reduceToInt, g_bm, g_bm'] at *); omega
set_option maxRecDepth 100000 in
theorem g_X12_latest_g_v35 (u : qS) (x : Int32) (y : Int32) (k : qS) (x3 : Int32) (x4 : Int32) (hI : IM u) (hk : IK k u) (hy : y < u.1 1247) (h_k : 0 ≤ x4) (h_v : x4 ≤ u.1 1247) (h_f : -1 ≤ x3) (h_g : x3 < u.1 1247) (h_l : d_lx k x y x4.toNatClampNeg x3) (hs_1 : 0 ≤ u.1 1247 ∧ u.1 1247 ≤ 120) (c11_2 : ¬ (u.1 1247) ≤ (x4 : Int32)) (b17_6 : f_sn k x4) (hb_7 : 0 ≤ (u.2.1 1248 (x4 : Int32).toNatClampNeg) ∧ (u.2.1 1248 (x4 : Int32).toNatClampNeg) < u.1 1232) (hs_8 : 0 ≤ u.1 1232 ∧ u.1 1232 ≤ 20) (c31_9 : (u.2.1 1248 (x4 : Int32).toNatClampNeg : Int32) = x) (c35_10 : ¬ (y : Int32) < 0) (b42_19 : d_ah k x4 y) (c61_20 : (x3 : Int32) < 0) : -1 ≤ x4 := by
  clear h_l hk; (try simp only [g_m1, Int32.lt_iff_toInt_lt, Int32.le_iff_toInt_le, ← Int32.toInt_inj, Int32.toInt_add, Int32.toInt_sub, Int32.toInt_mul, Int32.toInt_neg, Int32.reduceToInt, g_bm, g_bm'] at *); omega
set_option maxRecDepth 100000 in
theorem g_X12_latest_g_v36 (u : qS) (x : Int32) (y : Int32) (k : qS) (x3 : Int32) (x4 : Int32) (hI : IM u) (hk : IK k u) (hy : y < u.1 1247) (h_k : 0 ≤ x4) (h_v : x4 ≤ u.1 1247) (h_f : -1 ≤ x3) (h_g : x3 < u.1 1247) (h_l : d_lx k x y x4.toNatClampNeg x3) (hs_1 : 0 ≤ u.1 1247 ∧ u.1 1247 ≤ 120) (c11_2 : ¬ (u.1 1247) ≤ (x4 : Int32)) (b17_6 : f_sn k x4) (hb_7 : 0 ≤ (u.2.1 1248 (x4 : Int32).toNatClampNeg) ∧ (u.2.1 1248 (x4 : Int32).toNatClampNeg) < u.1 1232) (hs_8 : 0 ≤ u.1 1232 ∧ u.1 1232 ≤ 20) (c31_9 : (u.2.1 1248 (x4 : Int32).toNatClampNeg : Int32) = x) (c35_10 : ¬ (y : Int32) < 0) (b42_19 : d_ah k x4 y) (c61_20 : (x3 : Int32) < 0) : x4 < u.1 1247 := by
  clear h_l hk; (try simp only [g_m1, Int32.lt_iff_toInt_lt, Int32.le_iff_toInt_le, ← Int32.toInt_inj, Int32.toInt_add, Int32.toInt_sub, Int32.toInt_mul, Int32.toInt_neg, Int32.reduceToInt, g_bm, g_bm'] at *); omega
set_option maxRecDepth 100000 in
theorem g_X12_latest_g_v37 (u : qS) (x : Int32) (y : Int32) (k : qS) (x3 : Int32) (x4 : Int32) (hI : IM u) (hk : IK k u) (hy : y < u.1 1247) (h_k : 0 ≤ x4) (h_v : x4 ≤ u.1 1247) (h_f : -1 ≤ x3) (h_g : x3 < u.1 1247) (h_l : d_lx k x y x4.toNatClampNeg x3) (hs_1 : 0 ≤ u.1 1247 ∧ u.1 1247 ≤ 120) (c11_2 : ¬ (u.1 1247) ≤ (x4 : Int32)) (b17_6 : f_sn k x4) (hb_7 : 0 ≤ (u.2.1 1248 (x4 : Int32).toNatClampNeg) ∧ (u.2.1 1248 (x4 : Int32).toNatClampNeg) < u.1 1232) (hs_8 : 0 ≤ u.1 1232 ∧ u.1 1232 ≤ 20) (c31_9 : (u.2.1 1248 (x4 : Int32).toNatClampNeg : Int32) = x) (c35_10 : ¬ (y : Int32) < 0) (b42_19 : d_ah k x4 y) (c61_20 : (x3 : Int32) < 0) : d_lx k x y (x4 + 1).toNatClampNeg x4 := by
  have q0 : 0 ≤ x4.toInt := (by clear h_l hk; (try simp only [g_m1, Int32.lt_iff_toInt_lt, Int32.le_iff_toInt_le, ← Int32.toInt_inj, Int32.reduceToInt] at *); omega)
  have q1 : x4.toInt < 120 := (by have q8 := hI.1.s1247; clear h_l hk; (try simp only [g_m1, Int32.lt_iff_toInt_lt, Int32.le_iff_toInt_le, ← Int32.toInt_inj, Int32.reduceToInt] at *); omega)
  have e4 := (g_up (i := x4) q0 (by omega)).2
  have eo := d_on q0
  rw [e4]
  have k1248 := hk.r 1248 (by decide)
  refine ⟨x3, h_l, ?_⟩
  unfold d_lm; rw [eo, ← k1248]
  first
  | exact Or.inl ⟨⟨⟨by assumption, by assumption⟩, by (first | exact Or.inl (by assumption) | exact Or.inr (by assumption))⟩, by (first | exact Or.inl (by assumption) | exact Or.inr (by assumption)), rfl⟩
  | exact Or.inr ⟨fun q => (by first | exact absurd q.1.1.1 (by assumption) | exact absurd q.1.1.2 (by assumption) | (rcases q.1.2 with w | w <;> exact absurd w (by assumption)) | (rcases q.2 with w | w <;> exact absurd w (by assumption))), rfl⟩
set_option maxRecDepth 100000 in
theorem g_X12_latest_g_v38 (u : qS) (x : Int32) (y : Int32) (k : qS) (x3 : Int32) (x4 : Int32) (hI : IM u) (hk : IK k u) (hy : y < u.1 1247) (h_k : 0 ≤ x4) (h_v : x4 ≤ u.1 1247) (h_f : -1 ≤ x3) (h_g : x3 < u.1 1247) (h_l : d_lx k x y x4.toNatClampNeg x3) (hs_1 : 0 ≤ u.1 1247 ∧ u.1 1247 ≤ 120) (c11_2 : ¬ (u.1 1247) ≤ (x4 : Int32)) (b17_6 : f_sn k x4) (hb_7 : 0 ≤ (u.2.1 1248 (x4 : Int32).toNatClampNeg) ∧ (u.2.1 1248 (x4 : Int32).toNatClampNeg) < u.1 1232) (hs_8 : 0 ≤ u.1 1232 ∧ u.1 1232 ≤ 20) (c31_9 : (u.2.1 1248 (x4 : Int32).toNatClampNeg : Int32) = x) (c35_10 : ¬ (y : Int32) < 0) (b42_19 : d_ah k x4 y) (c61_20 : (x3 : Int32) < 0) : ((u.1 1247).toInt - (x4 + 1).toInt).toNat < ((u.1 1247).toInt - x4.toInt).toNat := by
  clear h_l hk; (try simp only [g_m1, Int32.lt_iff_toInt_lt, Int32.le_iff_toInt_le, ← Int32.toInt_inj, Int32.toInt_add, Int32.toInt_sub, Int32.toInt_mul, Int32.toInt_neg, Int32.reduceToInt, g_bm, g_bm'] at *); omega
set_option maxRecDepth 100000 in
theorem g_X12_latest_g_v39 (u : qS) (x : Int32) (y : Int32) (k : qS) (x3 : Int32) (x4 : Int32) (hI : IM u) (hk : IK k u) (hy : y < u.1 1247) (h_k : 0 ≤ x4) (h_v : x4 ≤ u.1 1247) (h_f : -1 ≤ x3) (h_g : x3 < u.1 1247) (h_l : d_lx k x y x4.toNatClampNeg x3) (hs_1 : 0 ≤ u.1 1247 ∧ u.1 1247 ≤ 120) (c11_2 : ¬ (u.1 1247) ≤ (x4 : Int32)) (b17_6 : f_sn k x4) (hb_7 : 0 ≤ (u.2.1 1248 (x4 : Int32).toNatClampNeg) ∧ (u.2.1 1248 (x4 : Int32).toNatClampNeg) < u.1 1232) (hs_8 : 0 ≤ u.1 1232 ∧ u.1 1232 ≤ 20) (c31_9 : (u.2.1 1248 (x4 : Int32).toNatClampNeg : Int32) = x) (c35_10 : ¬ (y : Int32) < 0) (b42_19 : d_ah k x4 y) (c61_20 : ¬ (x3 : Int32) < 0) : 0 ≤ x3 ∧ x3 < (u.1 1247 : Int32) := by
  first | omega | ((try simp only [g_m1, Int32.lt_iff_toInt_lt, Int32.le_iff_toInt_le, ← Int32.toInt_inj, Int32.reduceToInt] at *); omega) | ((try simp only [g_m1, Int32.lt_iff_toInt_lt, Int32.le_iff_toInt_le, ← Int32.toInt_inj, Int32.reduceToInt] at *); omega) | ((try simp only [g_m1, Int32.lt_iff_toInt_lt, Int32.le_iff_toInt_le, ← Int32.toInt_inj, Int32.toInt_add, Int32.toInt_sub, Int32.toInt_mul, Int32.toInt_neg, Int32.reduceToInt, g_bm, g_bm'] at *); omega) | (have qr1 := g_rng x; have qr2 := g_rng y; have qr4 := g_rng x3; have qr5 := g_rng x4; (try simp only [g_m1, Int32.lt_iff_toInt_lt, Int32.le_iff_toInt_le, ← Int32.toInt_inj, Int32.toInt_add, Int32.toInt_sub, Int32.toInt_mul, Int32.toInt_neg, Int32.reduceToInt, g_bm, g_bm'] at *); omega) | (simp only [g_m1, Int32.lt_iff_toInt_lt, Int32.le_iff_toInt_le, ← Int32.toInt_inj, Int32.toInt_add, Int32.toInt_sub, Int32.toInt_mul, Int32.toInt_neg, Int32.reduceToInt, g_bm, g_bm'] at *; simp at *; omega) | (simp_all; done)
set_option maxRecDepth 100000 in
theorem g_X12_latest_g_v40 (u : qS) (x : Int32) (y : Int32) (k : qS) (x3 : Int32) (x4 : Int32) (hI : IM u) (hk : IK k u) (hy : y < u.1 1247) (h_k : 0 ≤ x4) (h_v : x4 ≤ u.1 1247) (h_f : -1 ≤ x3) (h_g : x3 < u.1 1247) (h_l : d_lx k x y x4.toNatClampNeg x3) (hs_1 : 0 ≤ u.1 1247 ∧ u.1 1247 ≤ 120) (c11_2 : ¬ (u.1 1247) ≤ (x4 : Int32)) (b17_6 : f_sn k x4) (hb_7 : 0 ≤ (u.2.1 1248 (x4 : Int32).toNatClampNeg) ∧ (u.2.1 1248 (x4 : Int32).toNatClampNeg) < u.1 1232) (hs_8 : 0 ≤ u.1 1232 ∧ u.1 1232 ≤ 20) (c31_9 : (u.2.1 1248 (x4 : Int32).toNatClampNeg : Int32) = x) (c35_10 : ¬ (y : Int32) < 0) (b42_19 : d_ah k x4 y) (c61_20 : ¬ (x3 : Int32) < 0) : 0 ≤ x4 ∧ x4 < (u.1 1247 : Int32) := by
  first | omega | ((try simp only [g_m1, Int32.lt_iff_toInt_lt, Int32.le_iff_toInt_le, ← Int32.toInt_inj, Int32.reduceToInt] at *); omega) | ((try simp only [g_m1, Int32.lt_iff_toInt_lt, Int32.le_iff_toInt_le, ← Int32.toInt_inj, Int32.reduceToInt] at *); omega) | ((try simp only [g_m1, Int32.lt_iff_toInt_lt, Int32.le_iff_toInt_le, ← Int32.toInt_inj, Int32.toInt_add, Int32.toInt_sub, Int32.toInt_mul, Int32.toInt_neg, Int32.reduceToInt, g_bm, g_bm'] at *); omega) | (have qr1 := g_rng x; have qr2 := g_rng y; have qr4 := g_rng x3; have qr5 := g_rng x4; (try simp only [g_m1, Int32.lt_iff_toInt_lt, Int32.le_iff_toInt_le, ← Int32.toInt_inj, Int32.toInt_add, Int32.toInt_sub, Int32.toInt_mul, Int32.toInt_neg, Int32.reduceToInt, g_bm, g_bm'] at *); omega) | (simp only [g_m1, Int32.lt_iff_toInt_lt, Int32.le_iff_toInt_le, ← Int32.toInt_inj, Int32.toInt_add, Int32.toInt_sub, Int32.toInt_mul, Int32.toInt_neg, Int32.reduceToInt, g_bm, g_bm'] at *; simp at *; omega) | (simp_all; done)
set_option maxRecDepth 100000 in
theorem g_X12_latest_g_v41 (u : qS) (x : Int32) (y : Int32) (k : qS) (x3 : Int32) (x4 : Int32) (hI : IM u) (hk : IK k u) (hy : y < u.1 1247) (h_k : 0 ≤ x4) (h_v : x4 ≤ u.1 1247) (h_f : -1 ≤ x3) (h_g : x3 < u.1 1247) (h_l : d_lx k x y x4.toNatClampNeg x3) (hs_1 : 0 ≤ u.1 1247 ∧ u.1 1247 ≤ 120) (c11_2 : ¬ (u.1 1247) ≤ (x4 : Int32)) (b17_6 : f_sn k x4) (hb_7 : 0 ≤ (u.2.1 1248 (x4 : Int32).toNatClampNeg) ∧ (u.2.1 1248 (x4 : Int32).toNatClampNeg) < u.1 1232) (hs_8 : 0 ≤ u.1 1232 ∧ u.1 1232 ≤ 20) (c31_9 : (u.2.1 1248 (x4 : Int32).toNatClampNeg : Int32) = x) (c35_10 : ¬ (y : Int32) < 0) (b42_19 : d_ah k x4 y) (c61_20 : ¬ (x3 : Int32) < 0) : (u.1 1247 : Int32) ≤ 120 := by
  first | omega | ((try simp only [g_m1, Int32.lt_iff_toInt_lt, Int32.le_iff_toInt_le, ← Int32.toInt_inj, Int32.reduceToInt] at *); omega) | ((try simp only [g_m1, Int32.lt_iff_toInt_lt, Int32.le_iff_toInt_le, ← Int32.toInt_inj, Int32.reduceToInt] at *); omega) | ((try simp only [g_m1, Int32.lt_iff_toInt_lt, Int32.le_iff_toInt_le, ← Int32.toInt_inj, Int32.toInt_add, Int32.toInt_sub, Int32.toInt_mul, Int32.toInt_neg, Int32.reduceToInt, g_bm, g_bm'] at *); omega) | (have qr1 := g_rng x; have qr2 := g_rng y; have qr4 := g_rng x3; have qr5 := g_rng x4; (try simp only [g_m1, Int32.lt_iff_toInt_lt, Int32.le_iff_toInt_le, ← Int32.toInt_inj, Int32.toInt_add, Int32.toInt_sub, Int32.toInt_mul, Int32.toInt_neg, Int32.reduceToInt, g_bm, g_bm'] at *); omega) | (simp only [g_m1, Int32.lt_iff_toInt_lt, Int32.le_iff_toInt_le, ← Int32.toInt_inj, Int32.toInt_add, Int32.toInt_sub, Int32.toInt_mul, Int32.toInt_neg, Int32.reduceToInt, g_bm, g_bm'] at *; simp at *; omega) | (simp_all; done)
set_option maxRecDepth 100000 in
theorem g_X12_latest_g_v42 (u : qS) (x : Int32) (y : Int32) (k : qS) (x3 : Int32) (x4 : Int32) (hI : IM u) (hk : IK k u) (hy : y < u.1 1247) (h_k : 0 ≤ x4) (h_v : x4 ≤ u.1 1247) (h_f : -1 ≤ x3) (h_g : x3 < u.1 1247) (h_l : d_lx k x y x4.toNatClampNeg x3) (hs_1 : 0 ≤ u.1 1247 ∧ u.1 1247 ≤ 120) (c11_2 : ¬ (u.1 1247) ≤ (x4 : Int32)) (b17_6 : f_sn k x4) (hb_7 : 0 ≤ (u.2.1 1248 (x4 : Int32).toNatClampNeg) ∧ (u.2.1 1248 (x4 : Int32).toNatClampNeg) < u.1 1232) (hs_8 : 0 ≤ u.1 1232 ∧ u.1 1232 ≤ 20) (c31_9 : (u.2.1 1248 (x4 : Int32).toNatClampNeg : Int32) = x) (c35_10 : ¬ (y : Int32) < 0) (b42_19 : d_ah k x4 y) (c61_20 : ¬ (x3 : Int32) < 0) (b68_24 : d_ah k x3 x4) : 0 ≤ (x4 + 1) := by
  clear h_l hk; (try simp only [g_m1, Int32.lt_iff_toInt_lt, Int32.le_iff_toInt_le, ← Int32.toInt_inj, Int32.toInt_add, Int32.toInt_sub, Int32.toInt_mul, Int32.toInt_neg, Int32.reduceToInt, g_bm, g_bm'] at *); omega
set_option maxRecDepth 100000 in
theorem g_X12_latest_g_v43 (u : qS) (x : Int32) (y : Int32) (k : qS) (x3 : Int32) (x4 : Int32) (hI : IM u) (hk : IK k u) (hy : y < u.1 1247) (h_k : 0 ≤ x4) (h_v : x4 ≤ u.1 1247) (h_f : -1 ≤ x3) (h_g : x3 < u.1 1247) (h_l : d_lx k x y x4.toNatClampNeg x3) (hs_1 : 0 ≤ u.1 1247 ∧ u.1 1247 ≤ 120) (c11_2 : ¬ (u.1 1247) ≤ (x4 : Int32)) (b17_6 : f_sn k x4) (hb_7 : 0 ≤ (u.2.1 1248 (x4 : Int32).toNatClampNeg) ∧ (u.2.1 1248 (x4 : Int32).toNatClampNeg) < u.1 1232) (hs_8 : 0 ≤ u.1 1232 ∧ u.1 1232 ≤ 20) (c31_9 : (u.2.1 1248 (x4 : Int32).toNatClampNeg : Int32) = x) (c35_10 : ¬ (y : Int32) < 0) (b42_19 : d_ah k x4 y) (c61_20 : ¬ (x3 : Int32) < 0) (b68_24 : d_ah k x3 x4) : (x4 + 1) ≤ u.1 1247 := by
  clear h_l hk; (try simp only [g_m1, Int32.lt_iff_toInt_lt, Int32.le_iff_toInt_le, ← Int32.toInt_inj, Int32.toInt_add, Int32.toInt_sub, Int32.toInt_mul, Int32.toInt_neg, Int32.reduceToInt, g_bm, g_bm'] at *); omega
set_option maxRecDepth 100000 in
theorem g_X12_latest_g_v44 (u : qS) (x : Int32) (y : Int32) (k : qS) (x3 : Int32) (x4 : Int32) (hI : IM u) (hk : IK k u) (hy : y < u.1 1247) (h_k : 0 ≤ x4) (h_v : x4 ≤ u.1 1247) (h_f : -1 ≤ x3) (h_g : x3 < u.1 1247) (h_l : d_lx k x y x4.toNatClampNeg x3) (hs_1 : 0 ≤ u.1 1247 ∧ u.1 1247 ≤ 120) (c11_2 : ¬ (u.1 1247) ≤ (x4 : Int32)) (b17_6 : f_sn k x4) (hb_7 : 0 ≤ (u.2.1 1248 (x4 : Int32).toNatClampNeg) ∧ (u.2.1 1248 (x4 : Int32).toNatClampNeg) < u.1 1232) (hs_8 : 0 ≤ u.1 1232 ∧ u.1 1232 ≤ 20) (c31_9 : (u.2.1 1248 (x4 : Int32).toNatClampNeg : Int32) = x) (c35_10 : ¬ (y : Int32) < 0) (b42_19 : d_ah k x4 y) (c61_20 : ¬ (x3 : Int32) < 0) (b68_24 : d_ah k x3 x4) : -1 ≤ x4 := by
  clear h_l hk; (try simp only [g_m1, Int32.lt_iff_toInt_lt, Int32.le_iff_toInt_le, ← Int32.toInt_inj, Int32.toInt_add, Int32.toInt_sub, Int32.toInt_mul, Int32.toInt_neg, Int32.reduceToInt, g_bm, g_bm'] at *); omega
set_option maxRecDepth 100000 in
theorem g_X12_latest_g_v45 (u : qS) (x : Int32) (y : Int32) (k : qS) (x3 : Int32) (x4 : Int32) (hI : IM u) (hk : IK k u) (hy : y < u.1 1247) (h_k : 0 ≤ x4) (h_v : x4 ≤ u.1 1247) (h_f : -1 ≤ x3) (h_g : x3 < u.1 1247) (h_l : d_lx k x y x4.toNatClampNeg x3) (hs_1 : 0 ≤ u.1 1247 ∧ u.1 1247 ≤ 120) (c11_2 : ¬ (u.1 1247) ≤ (x4 : Int32)) (b17_6 : f_sn k x4) (hb_7 : 0 ≤ (u.2.1 1248 (x4 : Int32).toNatClampNeg) ∧ (u.2.1 1248 (x4 : Int32).toNatClampNeg) < u.1 1232) (hs_8 : 0 ≤ u.1 1232 ∧ u.1 1232 ≤ 20) (c31_9 : (u.2.1 1248 (x4 : Int32).toNatClampNeg : Int32) = x) (c35_10 : ¬ (y : Int32) < 0) (b42_19 : d_ah k x4 y) (c61_20 : ¬ (x3 : Int32) < 0) (b68_24 : d_ah k x3 x4) : x4 < u.1 1247 := by
  clear h_l hk; (try simp only [g_m1, Int32.lt_iff_toInt_lt, Int32.le_iff_toInt_le, ← Int32.toInt_inj, Int32.toInt_add, Int32.toInt_sub, Int32.toInt_mul, Int32.toInt_neg, Int32.reduceToInt, g_bm, g_bm'] at *); omega
set_option maxRecDepth 100000 in
theorem g_X12_latest_g_v46 (u : qS) (x : Int32) (y : Int32) (k : qS) (x3 : Int32) (x4 : Int32) (hI : IM u) (hk : IK k u) (hy : y < u.1 1247) (h_k : 0 ≤ x4) (h_v : x4 ≤ u.1 1247) (h_f : -1 ≤ x3) (h_g : x3 < u.1 1247) (h_l : d_lx k x y x4.toNatClampNeg x3) (hs_1 : 0 ≤ u.1 1247 ∧ u.1 1247 ≤ 120) (c11_2 : ¬ (u.1 1247) ≤ (x4 : Int32)) (b17_6 : f_sn k x4) (hb_7 : 0 ≤ (u.2.1 1248 (x4 : Int32).toNatClampNeg) ∧ (u.2.1 1248 (x4 : Int32).toNatClampNeg) < u.1 1232) (hs_8 : 0 ≤ u.1 1232 ∧ u.1 1232 ≤ 20) (c31_9 : (u.2.1 1248 (x4 : Int32).toNatClampNeg : Int32) = x) (c35_10 : ¬ (y : Int32) < 0) (b42_19 : d_ah k x4 y) (c61_20 : ¬ (x3 : Int32) < 0) (b68_24 : d_ah k x3 x4) : d_lx k x y (x4 + 1).toNatClampNeg x4 := by
  have q0 : 0 ≤ x4.toInt := (by clear h_l hk; (try simp only [g_m1, Int32.lt_iff_toInt_lt, Int32.le_iff_toInt_le, ← Int32.toInt_inj, Int32.reduceToInt] at *); omega)
  have q1 : x4.toInt < 120 := (by have q8 := hI.1.s1247; clear h_l hk; (try simp only [g_m1, Int32.lt_iff_toInt_lt, Int32.le_iff_toInt_le, ← Int32.toInt_inj, Int32.reduceToInt] at *); omega)
  have e4 := (g_up (i := x4) q0 (by omega)).2
  have eo := d_on q0
  rw [e4]
  have k1248 := hk.r 1248 (by decide)
  refine ⟨x3, h_l, ?_⟩
  unfold d_lm; rw [eo, ← k1248]
  first
  | exact Or.inl ⟨⟨⟨by assumption, by assumption⟩, by (first | exact Or.inl (by assumption) | exact Or.inr (by assumption))⟩, by (first | exact Or.inl (by assumption) | exact Or.inr (by assumption)), rfl⟩
  | exact Or.inr ⟨fun q => (by first | exact absurd q.1.1.1 (by assumption) | exact absurd q.1.1.2 (by assumption) | (rcases q.1.2 with w | w <;> exact absurd w (by assumption)) | (rcases q.2 with w | w <;> exact absurd w (by assumption))), rfl⟩
set_option maxRecDepth 100000 in
theorem g_X12_latest_g_v47 (u : qS) (x : Int32) (y : Int32) (k : qS) (x3 : Int32) (x4 : Int32) (hI : IM u) (hk : IK k u) (hy : y < u.1 1247) (h_k : 0 ≤ x4) (h_v : x4 ≤ u.1 1247) (h_f : -1 ≤ x3) (h_g : x3 < u.1 1247) (h_l : d_lx k x y x4.toNatClampNeg x3) (hs_1 : 0 ≤ u.1 1247 ∧ u.1 1247 ≤ 120) (c11_2 : ¬ (u.1 1247) ≤ (x4 : Int32)) (b17_6 : f_sn k x4) (hb_7 : 0 ≤ (u.2.1 1248 (x4 : Int32).toNatClampNeg) ∧ (u.2.1 1248 (x4 : Int32).toNatClampNeg) < u.1 1232) (hs_8 : 0 ≤ u.1 1232 ∧ u.1 1232 ≤ 20) (c31_9 : (u.2.1 1248 (x4 : Int32).toNatClampNeg : Int32) = x) (c35_10 : ¬ (y : Int32) < 0) (b42_19 : d_ah k x4 y) (c61_20 : ¬ (x3 : Int32) < 0) (b68_24 : d_ah k x3 x4) : ((u.1 1247).toInt - (x4 + 1).toInt).toNat < ((u.1 1247).toInt - x4.toInt).toNat := by
  clear h_l hk; (try simp only [g_m1, Int32.lt_iff_toInt_lt, Int32.le_iff_toInt_le, ← Int32.toInt_inj, Int32.toInt_add, Int32.toInt_sub, Int32.toInt_mul, Int32.toInt_neg, Int32.reduceToInt, g_bm, g_bm'] at *); omega
set_option maxRecDepth 100000 in
theorem g_X12_latest_g_v48 (u : qS) (x : Int32) (y : Int32) (k : qS) (x3 : Int32) (x4 : Int32) (hI : IM u) (hk : IK k u) (hy : y < u.1 1247) (h_k : 0 ≤ x4) (h_v : x4 ≤ u.1 1247) (h_f : -1 ≤ x3) (h_g : x3 < u.1 1247) (h_l : d_lx k x y x4.toNatClampNeg x3) (hs_1 : 0 ≤ u.1 1247 ∧ u.1 1247 ≤ 120) (c11_2 : ¬ (u.1 1247) ≤ (x4 : Int32)) (b17_6 : f_sn k x4) (hb_7 : 0 ≤ (u.2.1 1248 (x4 : Int32).toNatClampNeg) ∧ (u.2.1 1248 (x4 : Int32).toNatClampNeg) < u.1 1232) (hs_8 : 0 ≤ u.1 1232 ∧ u.1 1232 ≤ 20) (c31_9 : (u.2.1 1248 (x4 : Int32).toNatClampNeg : Int32) = x) (c35_10 : ¬ (y : Int32) < 0) (b42_19 : d_ah k x4 y) (c61_20 : ¬ (x3 : Int32) < 0) (b68_24 : ¬ (d_ah k x3 x4)) : 0 ≤ (x4 + 1) := by
  clear h_l hk; (try simp only [g_m1, Int32.lt_iff_toInt_lt, Int32.le_iff_toInt_le, ← Int32.toInt_inj, Int32.toInt_add, Int32.toInt_sub, Int32.toInt_mul, Int32.toInt_neg, Int32.reduceToInt, g_bm, g_bm'] at *); omega
set_option maxRecDepth 100000 in
theorem g_X12_latest_g_v49 (u : qS) (x : Int32) (y : Int32) (k : qS) (x3 : Int32) (x4 : Int32) (hI : IM u) (hk : IK k u) (hy : y < u.1 1247) (h_k : 0 ≤ x4) (h_v : x4 ≤ u.1 1247) (h_f : -1 ≤ x3) (h_g : x3 < u.1 1247) (h_l : d_lx k x y x4.toNatClampNeg x3) (hs_1 : 0 ≤ u.1 1247 ∧ u.1 1247 ≤ 120) (c11_2 : ¬ (u.1 1247) ≤ (x4 : Int32)) (b17_6 : f_sn k x4) (hb_7 : 0 ≤ (u.2.1 1248 (x4 : Int32).toNatClampNeg) ∧ (u.2.1 1248 (x4 : Int32).toNatClampNeg) < u.1 1232) (hs_8 : 0 ≤ u.1 1232 ∧ u.1 1232 ≤ 20) (c31_9 : (u.2.1 1248 (x4 : Int32).toNatClampNeg : Int32) = x) (c35_10 : ¬ (y : Int32) < 0) (b42_19 : d_ah k x4 y) (c61_20 : ¬ (x3 : Int32) < 0) (b68_24 : ¬ (d_ah k x3 x4)) : (x4 + 1) ≤ u.1 1247 := by
  clear h_l hk; (try simp only [g_m1, Int32.lt_iff_toInt_lt, Int32.le_iff_toInt_le, ← Int32.toInt_inj, Int32.toInt_add, Int32.toInt_sub, Int32.toInt_mul, Int32.toInt_neg, Int32.reduceToInt, g_bm, g_bm'] at *); omega
set_option maxRecDepth 100000 in
theorem g_X12_latest_g_v50 (u : qS) (x : Int32) (y : Int32) (k : qS) (x3 : Int32) (x4 : Int32) (hI : IM u) (hk : IK k u) (hy : y < u.1 1247) (h_k : 0 ≤ x4) (h_v : x4 ≤ u.1 1247) (h_f : -1 ≤ x3) (h_g : x3 < u.1 1247) (h_l : d_lx k x y x4.toNatClampNeg x3) (hs_1 : 0 ≤ u.1 1247 ∧ u.1 1247 ≤ 120) (c11_2 : ¬ (u.1 1247) ≤ (x4 : Int32)) (b17_6 : f_sn k x4) (hb_7 : 0 ≤ (u.2.1 1248 (x4 : Int32).toNatClampNeg) ∧ (u.2.1 1248 (x4 : Int32).toNatClampNeg) < u.1 1232) (hs_8 : 0 ≤ u.1 1232 ∧ u.1 1232 ≤ 20) (c31_9 : (u.2.1 1248 (x4 : Int32).toNatClampNeg : Int32) = x) (c35_10 : ¬ (y : Int32) < 0) (b42_19 : d_ah k x4 y) (c61_20 : ¬ (x3 : Int32) < 0) (b68_24 : ¬ (d_ah k x3 x4)) : -1 ≤ x3 := by
  clear h_l hk; (try simp only [g_m1, Int32.lt_iff_toInt_lt, Int32.le_iff_toInt_le, ← Int32.toInt_inj, Int32.toInt_add, Int32.toInt_sub, Int32.toInt_mul, Int32.toInt_neg, Int32.reduceToInt, g_bm, g_bm'] at *); omega
set_option maxRecDepth 100000 in
theorem g_X12_latest_g_v51 (u : qS) (x : Int32) (y : Int32) (k : qS) (x3 : Int32) (x4 : Int32) (hI : IM u) (hk : IK k u) (hy : y < u.1 1247) (h_k : 0 ≤ x4) (h_v : x4 ≤ u.1 1247) (h_f : -1 ≤ x3) (h_g : x3 < u.1 1247) (h_l : d_lx k x y x4.toNatClampNeg x3) (hs_1 : 0 ≤ u.1 1247 ∧ u.1 1247 ≤ 120) (c11_2 : ¬ (u.1 1247) ≤ (x4 : Int32)) (b17_6 : f_sn k x4) (hb_7 : 0 ≤ (u.2.1 1248 (x4 : Int32).toNatClampNeg) ∧ (u.2.1 1248 (x4 : Int32).toNatClampNeg) < u.1 1232) (hs_8 : 0 ≤ u.1 1232 ∧ u.1 1232 ≤ 20) (c31_9 : (u.2.1 1248 (x4 : Int32).toNatClampNeg : Int32) = x) (c35_10 : ¬ (y : Int32) < 0) (b42_19 : d_ah k x4 y) (c61_20 : ¬ (x3 : Int32) < 0) (b68_24 : ¬ (d_ah k x3 x4)) : x3 < u.1 1247 := by
  clear h_l hk; (try simp only [g_m1, Int32.lt_iff_toInt_lt, Int32.le_iff_toInt_le, ← Int32.toInt_inj, Int32.toInt_add, Int32.toInt_sub, Int32.toInt_mul, Int32.toInt_neg, Int32.reduceToInt, g_bm, g_bm'] at *); omega
set_option maxRecDepth 100000 in
theorem g_X12_latest_g_v52 (u : qS) (x : Int32) (y : Int32) (k : qS) (x3 : Int32) (x4 : Int32) (hI : IM u) (hk : IK k u) (hy : y < u.1 1247) (h_k : 0 ≤ x4) (h_v : x4 ≤ u.1 1247) (h_f : -1 ≤ x3) (h_g : x3 < u.1 1247) (h_l : d_lx k x y x4.toNatClampNeg x3) (hs_1 : 0 ≤ u.1 1247 ∧ u.1 1247 ≤ 120) (c11_2 : ¬ (u.1 1247) ≤ (x4 : Int32)) (b17_6 : f_sn k x4) (hb_7 : 0 ≤ (u.2.1 1248 (x4 : Int32).toNatClampNeg) ∧ (u.2.1 1248 (x4 : Int32).toNatClampNeg) < u.1 1232) (hs_8 : 0 ≤ u.1 1232 ∧ u.1 1232 ≤ 20) (c31_9 : (u.2.1 1248 (x4 : Int32).toNatClampNeg : Int32) = x) (c35_10 : ¬ (y : Int32) < 0) (b42_19 : d_ah k x4 y) (c61_20 : ¬ (x3 : Int32) < 0) (b68_24 : ¬ (d_ah k x3 x4)) : d_lx k x y (x4 + 1).toNatClampNeg x3 := by
  have q0 : 0 ≤ x4.toInt := (by clear h_l hk; (try simp only [g_m1, Int32.lt_iff_toInt_lt, Int32.le_iff_toInt_le, ← Int32.toInt_inj, Int32.reduceToInt] at *); omega)
  have q1 : x4.toInt < 120 := (by have q8 := hI.1.s1247; clear h_l hk; (try simp only [g_m1, Int32.lt_iff_toInt_lt, Int32.le_iff_toInt_le, ← Int32.toInt_inj, Int32.reduceToInt] at *); omega)
  have e4 := (g_up (i := x4) q0 (by omega)).2
  have eo := d_on q0
  rw [e4]
  have k1248 := hk.r 1248 (by decide)
  refine ⟨x3, h_l, ?_⟩
  unfold d_lm; rw [eo, ← k1248]
  first
  | exact Or.inl ⟨⟨⟨by assumption, by assumption⟩, by (first | exact Or.inl (by assumption) | exact Or.inr (by assumption))⟩, by (first | exact Or.inl (by assumption) | exact Or.inr (by assumption)), rfl⟩
  | exact Or.inr ⟨fun q => (by first | exact absurd q.1.1.1 (by assumption) | exact absurd q.1.1.2 (by assumption) | (rcases q.1.2 with w | w <;> exact absurd w (by assumption)) | (rcases q.2 with w | w <;> exact absurd w (by assumption))), rfl⟩
set_option maxRecDepth 100000 in
theorem g_X12_latest_g_v53 (u : qS) (x : Int32) (y : Int32) (k : qS) (x3 : Int32) (x4 : Int32) (hI : IM u) (hk : IK k u) (hy : y < u.1 1247) (h_k : 0 ≤ x4) (h_v : x4 ≤ u.1 1247) (h_f : -1 ≤ x3) (h_g : x3 < u.1 1247) (h_l : d_lx k x y x4.toNatClampNeg x3) (hs_1 : 0 ≤ u.1 1247 ∧ u.1 1247 ≤ 120) (c11_2 : ¬ (u.1 1247) ≤ (x4 : Int32)) (b17_6 : f_sn k x4) (hb_7 : 0 ≤ (u.2.1 1248 (x4 : Int32).toNatClampNeg) ∧ (u.2.1 1248 (x4 : Int32).toNatClampNeg) < u.1 1232) (hs_8 : 0 ≤ u.1 1232 ∧ u.1 1232 ≤ 20) (c31_9 : (u.2.1 1248 (x4 : Int32).toNatClampNeg : Int32) = x) (c35_10 : ¬ (y : Int32) < 0) (b42_19 : d_ah k x4 y) (c61_20 : ¬ (x3 : Int32) < 0) (b68_24 : ¬ (d_ah k x3 x4)) : ((u.1 1247).toInt - (x4 + 1).toInt).toNat < ((u.1 1247).toInt - x4.toInt).toNat := by
  clear h_l hk; (try simp only [g_m1, Int32.lt_iff_toInt_lt, Int32.le_iff_toInt_le, ← Int32.toInt_inj, Int32.toInt_add, Int32.toInt_sub, Int32.toInt_mul, Int32.toInt_neg, Int32.reduceToInt, g_bm, g_bm'] at *); omega
set_option maxRecDepth 100000 in
theorem g_X12_latest_g_v54 (u : qS) (x : Int32) (y : Int32) (k : qS) (x3 : Int32) (x4 : Int32) (hI : IM u) (hk : IK k u) (hy : y < u.1 1247) (h_k : 0 ≤ x4) (h_v : x4 ≤ u.1 1247) (h_f : -1 ≤ x3) (h_g : x3 < u.1 1247) (h_l : d_lx k x y x4.toNatClampNeg x3) (hs_1 : 0 ≤ u.1 1247 ∧ u.1 1247 ≤ 120) (c11_2 : ¬ (u.1 1247) ≤ (x4 : Int32)) (b17_6 : f_sn k x4) (hb_7 : 0 ≤ (u.2.1 1248 (x4 : Int32).toNatClampNeg) ∧ (u.2.1 1248 (x4 : Int32).toNatClampNeg) < u.1 1232) (hs_8 : 0 ≤ u.1 1232 ∧ u.1 1232 ≤ 20) (c31_9 : (u.2.1 1248 (x4 : Int32).toNatClampNeg : Int32) = x) (c35_10 : ¬ (y : Int32) < 0) (b42_19 : ¬ (d_ah k x4 y)) : 0 ≤ (x4 + 1) := by
  clear h_l hk; (try simp only [g_m1, Int32.lt_iff_toInt_lt, Int32.le_iff_toInt_le, ← Int32.toInt_inj, Int32.toInt_add, Int32.toInt_sub, Int32.toInt_mul, Int32.toInt_neg, Int32.reduceToInt, g_bm, g_bm'] at *); omega
set_option maxRecDepth 100000 in
theorem g_X12_latest_g_v55 (u : qS) (x : Int32) (y : Int32) (k : qS) (x3 : Int32) (x4 : Int32) (hI : IM u) (hk : IK k u) (hy : y < u.1 1247) (h_k : 0 ≤ x4) (h_v : x4 ≤ u.1 1247) (h_f : -1 ≤ x3) (h_g : x3 < u.1 1247) (h_l : d_lx k x y x4.toNatClampNeg x3) (hs_1 : 0 ≤ u.1 1247 ∧ u.1 1247 ≤ 120) (c11_2 : ¬ (u.1 1247) ≤ (x4 : Int32)) (b17_6 : f_sn k x4) (hb_7 : 0 ≤ (u.2.1 1248 (x4 : Int32).toNatClampNeg) ∧ (u.2.1 1248 (x4 : Int32).toNatClampNeg) < u.1 1232) (hs_8 : 0 ≤ u.1 1232 ∧ u.1 1232 ≤ 20) (c31_9 : (u.2.1 1248 (x4 : Int32).toNatClampNeg : Int32) = x) (c35_10 : ¬ (y : Int32) < 0) (b42_19 : ¬ (d_ah k x4 y)) : (x4 + 1) ≤ u.1 1247 := by
  clear h_l hk; (try simp only [g_m1, Int32.lt_iff_toInt_lt, Int32.le_iff_toInt_le, ← Int32.toInt_inj, Int32.toInt_add, Int32.toInt_sub, Int32.toInt_mul, Int32.toInt_neg, Int32.reduceToInt, g_bm, g_bm'] at *); omega
set_option maxRecDepth 100000 in
theorem g_X12_latest_g_v56 (u : qS) (x : Int32) (y : Int32) (k : qS) (x3 : Int32) (x4 : Int32) (hI : IM u) (hk : IK k u) (hy : y < u.1 1247) (h_k : 0 ≤ x4) (h_v : x4 ≤ u.1 1247) (h_f : -1 ≤ x3) (h_g : x3 < u.1 1247) (h_l : d_lx k x y x4.toNatClampNeg x3) (hs_1 : 0 ≤ u.1 1247 ∧ u.1 1247 ≤ 120) (c11_2 : ¬ (u.1 1247) ≤ (x4 : Int32)) (b17_6 : f_sn k x4) (hb_7 : 0 ≤ (u.2.1 1248 (x4 : Int32).toNatClampNeg) ∧ (u.2.1 1248 (x4 : Int32).toNatClampNeg) < u.1 1232) (hs_8 : 0 ≤ u.1 1232 ∧ u.1 1232 ≤ 20) (c31_9 : (u.2.1 1248 (x4 : Int32).toNatClampNeg : Int32) = x) (c35_10 : ¬ (y : Int32) < 0) (b42_19 : ¬ (d_ah k x4 y)) : -1 ≤ x3 := by
  clear h_l hk; (try simp only [g_m1, Int32.lt_iff_toInt_lt, Int32.le_iff_toInt_le, ← Int32.toInt_inj, Int32.toInt_add, Int32.toInt_sub, Int32.toInt_mul, Int32.toInt_neg, Int32.reduceToInt, g_bm, g_bm'] at *); omega
set_option maxRecDepth 100000 in
theorem g_X12_latest_g_v57 (u : qS) (x : Int32) (y : Int32) (k : qS) (x3 : Int32) (x4 : Int32) (hI : IM u) (hk : IK k u) (hy : y < u.1 1247) (h_k : 0 ≤ x4) (h_v : x4 ≤ u.1 1247) (h_f : -1 ≤ x3) (h_g : x3 < u.1 1247) (h_l : d_lx k x y x4.toNatClampNeg x3) (hs_1 : 0 ≤ u.1 1247 ∧ u.1 1247 ≤ 120) (c11_2 : ¬ (u.1 1247) ≤ (x4 : Int32)) (b17_6 : f_sn k x4) (hb_7 : 0 ≤ (u.2.1 1248 (x4 : Int32).toNatClampNeg) ∧ (u.2.1 1248 (x4 : Int32).toNatClampNeg) < u.1 1232) (hs_8 : 0 ≤ u.1 1232 ∧ u.1 1232 ≤ 20) (c31_9 : (u.2.1 1248 (x4 : Int32).toNatClampNeg : Int32) = x) (c35_10 : ¬ (y : Int32) < 0) (b42_19 : ¬ (d_ah k x4 y)) : x3 < u.1 1247 := by
  clear h_l hk; (try simp only [g_m1, Int32.lt_iff_toInt_lt, Int32.le_iff_toInt_le, ← Int32.toInt_inj, Int32.toInt_add, Int32.toInt_sub, Int32.toInt_mul, Int32.toInt_neg, Int32.reduceToInt, g_bm, g_bm'] at *); omega
set_option maxRecDepth 100000 in
theorem g_X12_latest_g_v58 (u : qS) (x : Int32) (y : Int32) (k : qS) (x3 : Int32) (x4 : Int32) (hI : IM u) (hk : IK k u) (hy : y < u.1 1247) (h_k : 0 ≤ x4) (h_v : x4 ≤ u.1 1247) (h_f : -1 ≤ x3) (h_g : x3 < u.1 1247) (h_l : d_lx k x y x4.toNatClampNeg x3) (hs_1 : 0 ≤ u.1 1247 ∧ u.1 1247 ≤ 120) (c11_2 : ¬ (u.1 1247) ≤ (x4 : Int32)) (b17_6 : f_sn k x4) (hb_7 : 0 ≤ (u.2.1 1248 (x4 : Int32).toNatClampNeg) ∧ (u.2.1 1248 (x4 : Int32).toNatClampNeg) < u.1 1232) (hs_8 : 0 ≤ u.1 1232 ∧ u.1 1232 ≤ 20) (c31_9 : (u.2.1 1248 (x4 : Int32).toNatClampNeg : Int32) = x) (c35_10 : ¬ (y : Int32) < 0) (b42_19 : ¬ (d_ah k x4 y)) : d_lx k x y (x4 + 1).toNatClampNeg x3 := by
  have q0 : 0 ≤ x4.toInt := (by clear h_l hk; (try simp only [g_m1, Int32.lt_iff_toInt_lt, Int32.le_iff_toInt_le, ← Int32.toInt_inj, Int32.reduceToInt] at *); omega)
  have q1 : x4.toInt < 120 := (by have q8 := hI.1.s1247; clear h_l hk; (try simp only [g_m1, Int32.lt_iff_toInt_lt, Int32.le_iff_toInt_le, ← Int32.toInt_inj, Int32.reduceToInt] at *); omega)
  have e4 := (g_up (i := x4) q0 (by omega)).2
  have eo := d_on q0
  rw [e4]
  have k1248 := hk.r 1248 (by decide)
  refine ⟨x3, h_l, ?_⟩
  unfold d_lm; rw [eo, ← k1248]
  first
  | exact Or.inl ⟨⟨⟨by assumption, by assumption⟩, by (first | exact Or.inl (by assumption) | exact Or.inr (by assumption))⟩, by (first | exact Or.inl (by assumption) | exact Or.inr (by assumption)), rfl⟩
  | exact Or.inr ⟨fun q => (by first | exact absurd q.1.1.1 (by assumption) | exact absurd q.1.1.2 (by assumption) | (rcases q.1.2 with w | w <;> exact absurd w (by assumption)) | (rcases q.2 with w | w <;> exact absurd w (by assumption))), rfl⟩
set_option maxRecDepth 100000 in
theorem g_X12_latest_g_v59 (u : qS) (x : Int32) (y : Int32) (k : qS) (x3 : Int32) (x4 : Int32) (hI : IM u) (hk : IK k u) (hy : y < u.1 1247) (h_k : 0 ≤ x4) (h_v : x4 ≤ u.1 1247) (h_f : -1 ≤ x3) (h_g : x3 < u.1 1247) (h_l : d_lx k x y x4.toNatClampNeg x3) (hs_1 : 0 ≤ u.1 1247 ∧ u.1 1247 ≤ 120) (c11_2 : ¬ (u.1 1247) ≤ (x4 : Int32)) (b17_6 : f_sn k x4) (hb_7 : 0 ≤ (u.2.1 1248 (x4 : Int32).toNatClampNeg) ∧ (u.2.1 1248 (x4 : Int32).toNatClampNeg) < u.1 1232) (hs_8 : 0 ≤ u.1 1232 ∧ u.1 1232 ≤ 20) (c31_9 : (u.2.1 1248 (x4 : Int32).toNatClampNeg : Int32) = x) (c35_10 : ¬ (y : Int32) < 0) (b42_19 : ¬ (d_ah k x4 y)) : ((u.1 1247).toInt - (x4 + 1).toInt).toNat < ((u.1 1247).toInt - x4.toInt).toNat := by
  clear h_l hk; (try simp only [g_m1, Int32.lt_iff_toInt_lt, Int32.le_iff_toInt_le, ← Int32.toInt_inj, Int32.toInt_add, Int32.toInt_sub, Int32.toInt_mul, Int32.toInt_neg, Int32.reduceToInt, g_bm, g_bm'] at *); omega
set_option maxRecDepth 100000 in
theorem g_X12_latest_g_v60 (u : qS) (x : Int32) (y : Int32) (k : qS) (x3 : Int32) (x4 : Int32) (hI : IM u) (hk : IK k u) (hy : y < u.1 1247) (h_k : 0 ≤ x4) (h_v : x4 ≤ u.1 1247) (h_f : -1 ≤ x3) (h_g : x3 < u.1 1247) (h_l : d_lx k x y x4.toNatClampNeg x3) (hs_1 : 0 ≤ u.1 1247 ∧ u.1 1247 ≤ 120) (c11_2 : ¬ (u.1 1247) ≤ (x4 : Int32)) (b17_6 : ¬ (f_sn k x4)) : 0 ≤ (x4 + 1) := by
  clear h_l hk; (try simp only [g_m1, Int32.lt_iff_toInt_lt, Int32.le_iff_toInt_le, ← Int32.toInt_inj, Int32.toInt_add, Int32.toInt_sub, Int32.toInt_mul, Int32.toInt_neg, Int32.reduceToInt, g_bm, g_bm'] at *); omega
set_option maxRecDepth 100000 in
theorem g_X12_latest_g_v61 (u : qS) (x : Int32) (y : Int32) (k : qS) (x3 : Int32) (x4 : Int32) (hI : IM u) (hk : IK k u) (hy : y < u.1 1247) (h_k : 0 ≤ x4) (h_v : x4 ≤ u.1 1247) (h_f : -1 ≤ x3) (h_g : x3 < u.1 1247) (h_l : d_lx k x y x4.toNatClampNeg x3) (hs_1 : 0 ≤ u.1 1247 ∧ u.1 1247 ≤ 120) (c11_2 : ¬ (u.1 1247) ≤ (x4 : Int32)) (b17_6 : ¬ (f_sn k x4)) : (x4 + 1) ≤ u.1 1247 := by
  clear h_l hk; (try simp only [g_m1, Int32.lt_iff_toInt_lt, Int32.le_iff_toInt_le, ← Int32.toInt_inj, Int32.toInt_add, Int32.toInt_sub, Int32.toInt_mul, Int32.toInt_neg, Int32.reduceToInt, g_bm, g_bm'] at *); omega
set_option maxRecDepth 100000 in
theorem g_X12_latest_g_v62 (u : qS) (x : Int32) (y : Int32) (k : qS) (x3 : Int32) (x4 : Int32) (hI : IM u) (hk : IK k u) (hy : y < u.1 1247) (h_k : 0 ≤ x4) (h_v : x4 ≤ u.1 1247) (h_f : -1 ≤ x3) (h_g : x3 < u.1 1247) (h_l : d_lx k x y x4.toNatClampNeg x3) (hs_1 : 0 ≤ u.1 1247 ∧ u.1 1247 ≤ 120) (c11_2 : ¬ (u.1 1247) ≤ (x4 : Int32)) (b17_6 : ¬ (f_sn k x4)) : -1 ≤ x3 := by
  clear h_l hk; (try simp only [g_m1, Int32.lt_iff_toInt_lt, Int32.le_iff_toInt_le, ← Int32.toInt_inj, Int32.toInt_add, Int32.toInt_sub, Int32.toInt_mul, Int32.toInt_neg, Int32.reduceToInt, g_bm, g_bm'] at *); omega
set_option maxRecDepth 100000 in
theorem g_X12_latest_g_v63 (u : qS) (x : Int32) (y : Int32) (k : qS) (x3 : Int32) (x4 : Int32) (hI : IM u) (hk : IK k u) (hy : y < u.1 1247) (h_k : 0 ≤ x4) (h_v : x4 ≤ u.1 1247) (h_f : -1 ≤ x3) (h_g : x3 < u.1 1247) (h_l : d_lx k x y x4.toNatClampNeg x3) (hs_1 : 0 ≤ u.1 1247 ∧ u.1 1247 ≤ 120) (c11_2 : ¬ (u.1 1247) ≤ (x4 : Int32)) (b17_6 : ¬ (f_sn k x4)) : x3 < u.1 1247 := by
  clear h_l hk; (try simp only [g_m1, Int32.lt_iff_toInt_lt, Int32.le_iff_toInt_le, ← Int32.toInt_inj, Int32.toInt_add, Int32.toInt_sub, Int32.toInt_mul, Int32.toInt_neg, Int32.reduceToInt, g_bm, g_bm'] at *); omega
set_option maxRecDepth 100000 in
theorem g_X12_latest_g_v64 (u : qS) (x : Int32) (y : Int32) (k : qS) (x3 : Int32) (x4 : Int32) (hI : IM u) (hk : IK k u) (hy : y < u.1 1247) (h_k : 0 ≤ x4) (h_v : x4 ≤ u.1 1247) (h_f : -1 ≤ x3) (h_g : x3 < u.1 1247) (h_l : d_lx k x y x4.toNatClampNeg x3) (hs_1 : 0 ≤ u.1 1247 ∧ u.1 1247 ≤ 120) (c11_2 : ¬ (u.1 1247) ≤ (x4 : Int32)) (b17_6 : ¬ (f_sn k x4)) : d_lx k x y (x4 + 1).toNatClampNeg x3 := by
  have q0 : 0 ≤ x4.toInt := (by clear h_l hk; (try simp only [g_m1, Int32.lt_iff_toInt_lt, Int32.le_iff_toInt_le, ← Int32.toInt_inj, Int32.reduceToInt] at *); omega)
  have q1 : x4.toInt < 120 := (by have q8 := hI.1.s1247; clear h_l hk; (try simp only [g_m1, Int32.lt_iff_toInt_lt, Int32.le_iff_toInt_le, ← Int32.toInt_inj, Int32.reduceToInt] at *); omega)
  have e4 := (g_up (i := x4) q0 (by omega)).2
  have eo := d_on q0
  rw [e4]
  have k1248 := hk.r 1248 (by decide)
  refine ⟨x3, h_l, ?_⟩
  unfold d_lm; rw [eo, ← k1248]
  first
  | exact Or.inl ⟨⟨⟨by assumption, by assumption⟩, by (first | exact Or.inl (by assumption) | exact Or.inr (by assumption))⟩, by (first | exact Or.inl (by assumption) | exact Or.inr (by assumption)), rfl⟩
  | exact Or.inr ⟨fun q => (by first | exact absurd q.1.1.1 (by assumption) | exact absurd q.1.1.2 (by assumption) | (rcases q.1.2 with w | w <;> exact absurd w (by assumption)) | (rcases q.2 with w | w <;> exact absurd w (by assumption))), rfl⟩
set_option maxRecDepth 100000 in
theorem g_X12_latest_g_v65 (u : qS) (x : Int32) (y : Int32) (k : qS) (x3 : Int32) (x4 : Int32) (hI : IM u) (hk : IK k u) (hy : y < u.1 1247) (h_k : 0 ≤ x4) (h_v : x4 ≤ u.1 1247) (h_f : -1 ≤ x3) (h_g : x3 < u.1 1247) (h_l : d_lx k x y x4.toNatClampNeg x3) (hs_1 : 0 ≤ u.1 1247 ∧ u.1 1247 ≤ 120) (c11_2 : ¬ (u.1 1247) ≤ (x4 : Int32)) (b17_6 : ¬ (f_sn k x4)) : ((u.1 1247).toInt - (x4 + 1).toInt).toNat < ((u.1 1247).toInt - x4.toInt).toNat := by
  clear h_l hk; (try simp only [g_m1, Int32.lt_iff_toInt_lt, Int32.le_iff_toInt_le, ← Int32.toInt_inj, Int32.toInt_add, Int32.toInt_sub, Int32.toInt_mul, Int32.toInt_neg, Int32.reduceToInt, g_bm, g_bm'] at *); omega
set_option maxRecDepth 100000 in
theorem g_X12_latest_g_v66 (u : qS) (x : Int32) (y : Int32) (k : qS) (hI : IM u) (hk : IK k u) (hy : y < u.1 1247) : 0 ≤ (0 : Int32) := by
  have hz1247 := hI.1.s1247
  first | omega | ((try simp only [g_m1, Int32.lt_iff_toInt_lt, Int32.le_iff_toInt_le, ← Int32.toInt_inj, Int32.reduceToInt] at *); omega) | ((try simp only [g_m1, Int32.lt_iff_toInt_lt, Int32.le_iff_toInt_le, ← Int32.toInt_inj, Int32.reduceToInt] at *); omega) | ((try simp only [g_m1, Int32.lt_iff_toInt_lt, Int32.le_iff_toInt_le, ← Int32.toInt_inj, Int32.toInt_add, Int32.toInt_sub, Int32.toInt_mul, Int32.toInt_neg, Int32.reduceToInt, g_bm, g_bm'] at *); omega) | (have qr1 := g_rng x; have qr2 := g_rng y; (try simp only [g_m1, Int32.lt_iff_toInt_lt, Int32.le_iff_toInt_le, ← Int32.toInt_inj, Int32.toInt_add, Int32.toInt_sub, Int32.toInt_mul, Int32.toInt_neg, Int32.reduceToInt, g_bm, g_bm'] at *); omega) | (simp only [g_m1, Int32.lt_iff_toInt_lt, Int32.le_iff_toInt_le, ← Int32.toInt_inj, Int32.toInt_add, Int32.toInt_sub, Int32.toInt_mul, Int32.toInt_neg, Int32.reduceToInt, g_bm, g_bm'] at *; simp at *; omega) | (simp_all; done)
set_option maxRecDepth 100000 in
theorem g_X12_latest_g_v67 (u : qS) (x : Int32) (y : Int32) (k : qS) (hI : IM u) (hk : IK k u) (hy : y < u.1 1247) : (0 : Int32) ≤ u.1 1247 := by
  have hz1247 := hI.1.s1247
  first | omega | ((try simp only [g_m1, Int32.lt_iff_toInt_lt, Int32.le_iff_toInt_le, ← Int32.toInt_inj, Int32.reduceToInt] at *); omega) | ((try simp only [g_m1, Int32.lt_iff_toInt_lt, Int32.le_iff_toInt_le, ← Int32.toInt_inj, Int32.reduceToInt] at *); omega) | ((try simp only [g_m1, Int32.lt_iff_toInt_lt, Int32.le_iff_toInt_le, ← Int32.toInt_inj, Int32.toInt_add, Int32.toInt_sub, Int32.toInt_mul, Int32.toInt_neg, Int32.reduceToInt, g_bm, g_bm'] at *); omega) | (have qr1 := g_rng x; have qr2 := g_rng y; (try simp only [g_m1, Int32.lt_iff_toInt_lt, Int32.le_iff_toInt_le, ← Int32.toInt_inj, Int32.toInt_add, Int32.toInt_sub, Int32.toInt_mul, Int32.toInt_neg, Int32.reduceToInt, g_bm, g_bm'] at *); omega) | (simp only [g_m1, Int32.lt_iff_toInt_lt, Int32.le_iff_toInt_le, ← Int32.toInt_inj, Int32.toInt_add, Int32.toInt_sub, Int32.toInt_mul, Int32.toInt_neg, Int32.reduceToInt, g_bm, g_bm'] at *; simp at *; omega) | (simp_all; done)
set_option maxRecDepth 100000 in
theorem g_X12_latest_g_v68 (u : qS) (x : Int32) (y : Int32) (k : qS) (hI : IM u) (hk : IK k u) (hy : y < u.1 1247) : -1 ≤ ((-1) : Int32) := by
  have hz1247 := hI.1.s1247
  first | omega | ((try simp only [g_m1, Int32.lt_iff_toInt_lt, Int32.le_iff_toInt_le, ← Int32.toInt_inj, Int32.reduceToInt] at *); omega) | ((try simp only [g_m1, Int32.lt_iff_toInt_lt, Int32.le_iff_toInt_le, ← Int32.toInt_inj, Int32.reduceToInt] at *); omega) | ((try simp only [g_m1, Int32.lt_iff_toInt_lt, Int32.le_iff_toInt_le, ← Int32.toInt_inj, Int32.toInt_add, Int32.toInt_sub, Int32.toInt_mul, Int32.toInt_neg, Int32.reduceToInt, g_bm, g_bm'] at *); omega) | (have qr1 := g_rng x; have qr2 := g_rng y; (try simp only [g_m1, Int32.lt_iff_toInt_lt, Int32.le_iff_toInt_le, ← Int32.toInt_inj, Int32.toInt_add, Int32.toInt_sub, Int32.toInt_mul, Int32.toInt_neg, Int32.reduceToInt, g_bm, g_bm'] at *); omega) | (simp only [g_m1, Int32.lt_iff_toInt_lt, Int32.le_iff_toInt_le, ← Int32.toInt_inj, Int32.toInt_add, Int32.toInt_sub, Int32.toInt_mul, Int32.toInt_neg, Int32.reduceToInt, g_bm, g_bm'] at *; simp at *; omega) | (simp_all; done)
set_option maxRecDepth 100000 in
theorem g_X12_latest_g_v69 (u : qS) (x : Int32) (y : Int32) (k : qS) (hI : IM u) (hk : IK k u) (hy : y < u.1 1247) : ((-1) : Int32) < u.1 1247 := by
  have hz1247 := hI.1.s1247
  first | omega | ((try simp only [g_m1, Int32.lt_iff_toInt_lt, Int32.le_iff_toInt_le, ← Int32.toInt_inj, Int32.reduceToInt] at *); omega) | ((try simp only [g_m1, Int32.lt_iff_toInt_lt, Int32.le_iff_toInt_le, ← Int32.toInt_inj, Int32.reduceToInt] at *); omega) | ((try simp only [g_m1, Int32.lt_iff_toInt_lt, Int32.le_iff_toInt_le, ← Int32.toInt_inj, Int32.toInt_add, Int32.toInt_sub, Int32.toInt_mul, Int32.toInt_neg, Int32.reduceToInt, g_bm, g_bm'] at *); omega) | (have qr1 := g_rng x; have qr2 := g_rng y; (try simp only [g_m1, Int32.lt_iff_toInt_lt, Int32.le_iff_toInt_le, ← Int32.toInt_inj, Int32.toInt_add, Int32.toInt_sub, Int32.toInt_mul, Int32.toInt_neg, Int32.reduceToInt, g_bm, g_bm'] at *); omega) | (simp only [g_m1, Int32.lt_iff_toInt_lt, Int32.le_iff_toInt_le, ← Int32.toInt_inj, Int32.toInt_add, Int32.toInt_sub, Int32.toInt_mul, Int32.toInt_neg, Int32.reduceToInt, g_bm, g_bm'] at *; simp at *; omega) | (simp_all; done)
set_option maxRecDepth 100000 in
theorem g_X12_latest_g_v70 (u : qS) (x : Int32) (y : Int32) (k : qS) (hI : IM u) (hk : IK k u) (hy : y < u.1 1247) : d_lx k x y (0 : Int32).toNatClampNeg ((-1) : Int32) := by
  have hz1247 := hI.1.s1247
  rfl
set_option maxHeartbeats 1000000 in
set_option maxRecDepth 100000 in
theorem g_X12_latest_g (l : Launch) (E : qE) (A : Nat → Prop) (u : qS) (x : Int32) (y : Int32) (k : qS) (hI : IM u) (hk : IK k u) (hy : y < u.1 1247) : Met l yX12_latest (uws yX12_latest cX12_latest 6 (some .int)) (qR 2 0 0) (qPc E A 1 u [.ref (E.2.2 1299), .int x, .int y]) (qQi E A 1 (fun r u1 => u1 = u ∧ ((-1 ≤ r ∧ r < u.1 1247) ∧ d_lz k x y r))) 0 0 A := by
  refine q_met (own := RX12) (f := 2) [.ref (E.2.2 1299), .int x, .int y] (by decide) (Nat.le_of_ble_eq_true rfl) rfl ?_
  intro p0 e0 s0 m0 bl0 me0 cd0 ls hF hr hlocks hU hS hA hl
  have hl : lv_has ls 6 [(0, .ref (E.2.2 1299)), (1, .int x), (2, .int y)] := hl
  have main : ∀ n : Nat, (∀ (x3 : Int32) (x4 : Int32) (uc : qS) (H : Heap) (locs : List Loc) (ls : Array Slot) (huc : u = uc) (h_k : 0 ≤ x4) (h_v : x4 ≤ u.1 1247) (h_f : -1 ≤ x3) (h_g : x3 < u.1 1247) (h_l : d_lx k x y x4.toNatClampNeg x3), ((u.1 1247).toInt - x4.toInt).toNat < n → qH E A 1 uc s0 H → va_S A s0.heap H locs → lv_has ls 6 [(0, .ref (E.2.2 1299)), (1, .int x), (2, .int y), (3, .int x3), (4, .int x4)] → W p0 l e0 (qR 2 0 0) s0 m0 ([.ref (E.2.2 1299), .int x, .int y] : List Value).toArray bl0 me0 cd0 H locs 0 0 (MQ bl0 (qQi E A 1 (fun r u1 => u1 = u ∧ ((-1 ≤ r ∧ r < u.1 1247) ∧ d_lz k x y r))) ([.ref (E.2.2 1299), .int x, .int y] : List Value).toArray s0 0 0 A) (F0 m0 5 ls [])) := by
    intro n
    induction n with
    | zero => exact fun _ _ _ _ _ _ _ _ _ _ _ _ hmu => absurd hmu (Nat.not_lt_zero _)
    | succ n ih =>
      intro x3 x4 uc H locs ls huc h_k h_v h_f h_g h_l hmu hU hS hl
      subst huc
      refine lv_iload hF.1 hF.2.1 dX12_latest_5 (lv_at hl 4 rfl) ?_
      refine lv_aload_n hF.1 hF.2.1 dX12_latest_7 rfl (lv_at hl 0 rfl) ?_
      refine q_get (v := .int (u.1 1247)) hF hU dX12_latest_8 0 12 47 1247 1299 rfl rfl rfl rfl inX12 (by decide) (by decide) w_1376 rfl rfl ?_
      have hs_1 : 0 ≤ u.1 1247 ∧ u.1 1247 ≤ 120 := hI.1.s1247
      refine lv_icmp_ge (tgt := 87) hF.1 hF.2.1 dX12_latest_11 (by decide) (fun c11_2 => ?_) (fun c11_2 => ?_)
      · refine lv_iload_n hF.1 hF.2.1 dX12_latest_87 rfl (lv_at hl 3 rfl) ?_
        exact q_iret hF hr rfl hlocks hU hS dX12_latest_88 ⟨rfl, (g_X12_latest_g_v0 u x y k x3 x4 hI hk hy h_k h_v h_f h_g h_l hs_1 c11_2)⟩
      · refine lv_aload_n hF.1 hF.2.1 dX12_latest_14 rfl (lv_at hl 0 rfl) ?_
        refine lv_iload hF.1 hF.2.1 dX12_latest_15 (lv_at hl 4 rfl) ?_
        have hM9 := g_X12_isSeen_f l E A u x4 k hI hk
        have hR9 := q_runV (l := l) (e := e0) (below := bl0) (meth := me0) (R := qR 2 0 0) (cells := 0) (slots := 0) (st0 := [.int x4, .ref (E.2.2 1299)]) (rest := []) hF hU hS hA 1 0 12 1299 rfl rfl rfl hM9 w_1730 w_1732 w_71 w_107 w_1733 (by decide +kernel) ⟨Nat.le_of_ble_eq_true rfl, Nat.le_of_ble_eq_true rfl⟩ dX12_latest_17 rfl hl.1 rfl (Nat.le_of_ble_eq_true rfl) ⟨Nat.le_of_ble_eq_true rfl, Nat.le_of_ble_eq_true rfl⟩
        refine q_calli hR9 hU.2.2.2 hS (fun r_5 u_3 H locs hw_4 hU hS => ?_)
        obtain ⟨hw_4_e, hw_4⟩ := hw_4
        rw [hw_4_e] at hU
        have hw_4 : (r_5 = 1 ∧ (f_sn k x4)) ∨ (r_5 = 0 ∧ ¬ (f_sn k x4)) := hw_4
        rcases hw_4 with ⟨rfl, b17_6⟩ | ⟨rfl, b17_6⟩
        · refine lv_if_eq (tgt := 52) hF.1 hF.2.1 dX12_latest_20 (by decide) (fun h9 => absurd h9 (by decide)) (fun _ => ?_)
          refine lv_aload_n hF.1 hF.2.1 dX12_latest_23 rfl (lv_at hl 0 rfl) ?_
          refine q_get (v := .ref (E.2.2 1248)) hF hU dX12_latest_24 0 12 48 1248 1299 rfl rfl rfl rfl inX12 (by decide) (by decide) w_1377 rfl rfl ?_
          refine lv_iload hF.1 hF.2.1 dX12_latest_27 (lv_at hl 4 rfl) ?_
          refine q_iald (v := u.2.1 1248 (x4 : Int32).toNatClampNeg) hF hU dX12_latest_29 27 1248 rfl rfl (g_X12_latest_g_v1 u x y k x3 x4 hI hk hy h_k h_v h_f h_g h_l hs_1 c11_2 b17_6) rfl ?_
          have hb_7 : 0 ≤ (u.2.1 1248 (x4 : Int32).toNatClampNeg) ∧ (u.2.1 1248 (x4 : Int32).toNatClampNeg) < u.1 1232 := hI.2.1.r1248 x4 (g_X12_latest_g_v2 u x y k x3 x4 hI hk hy h_k h_v h_f h_g h_l hs_1 c11_2 b17_6)
          have hs_8 : 0 ≤ u.1 1232 ∧ u.1 1232 ≤ 20 := hI.1.s1232
          refine lv_iload_n hF.1 hF.2.1 dX12_latest_30 rfl (lv_at hl 1 rfl) ?_
          refine lv_icmp_ne (tgt := 52) hF.1 hF.2.1 dX12_latest_31 (by decide) (fun c31_9 => ?_) (fun c31_9 => ?_)
          · refine lv_iconst (v := 0) hF.1 hF.2.1 dX12_latest_52 (by decide) ?_
            refine lv_istore (lv' := [(5, .int 0), (0, .ref (E.2.2 1299)), (1, .int x), (2, .int y), (3, .int x3), (4, .int x4)]) hF.1 hF.2.1 dX12_latest_53 hl (by decide) rfl (fun ls hl => ?_)
            refine lv_iload hF.1 hF.2.1 dX12_latest_55 (lv_at hl 0 rfl) ?_
            refine lv_if_eq (tgt := 79) hF.1 hF.2.1 dX12_latest_57 (by decide) (fun _ => ?_) (fun h9 => absurd (by decide) h9)
            refine lv_iload_n hF.1 hF.2.1 dX12_latest_79 rfl (lv_at hl 4 rfl) ?_
            refine lv_istore_n (lv' := [(3, .int x3), (5, .int 0), (0, .ref (E.2.2 1299)), (1, .int x), (2, .int y), (4, .int x4)]) hF.1 hF.2.1 dX12_latest_80 rfl hl (by decide) rfl (fun ls hl => ?_)
            refine lv_iinc (v := x4 + 1) (lv' := [(4, .int (x4 + 1)), (3, .int x3), (5, .int 0), (0, .ref (E.2.2 1299)), (1, .int x), (2, .int y)]) hF.1 hF.2.1 dX12_latest_81 hl (k := 5) rfl rfl (by decide) rfl (fun ls hl => ?_)
            refine lv_goto (tgt := 5) hF.1 hF.2.1 dX12_latest_84 (by decide) ?_
            exact ih x3 (x4 + 1) u _ _ _ rfl (g_X12_latest_g_v3 u x y k x3 x4 hI hk hy h_k h_v h_f h_g h_l hs_1 c11_2 b17_6 hb_7 hs_8 c31_9) (g_X12_latest_g_v4 u x y k x3 x4 hI hk hy h_k h_v h_f h_g h_l hs_1 c11_2 b17_6 hb_7 hs_8 c31_9) (g_X12_latest_g_v5 u x y k x3 x4 hI hk hy h_k h_v h_f h_g h_l hs_1 c11_2 b17_6 hb_7 hs_8 c31_9) (g_X12_latest_g_v6 u x y k x3 x4 hI hk hy h_k h_v h_f h_g h_l hs_1 c11_2 b17_6 hb_7 hs_8 c31_9) (g_X12_latest_g_v7 u x y k x3 x4 hI hk hy h_k h_v h_f h_g h_l hs_1 c11_2 b17_6 hb_7 hs_8 c31_9) (Nat.lt_of_lt_of_le (g_X12_latest_g_v8 u x y k x3 x4 hI hk hy h_k h_v h_f h_g h_l hs_1 c11_2 b17_6 hb_7 hs_8 c31_9) (Nat.lt_succ_iff.mp hmu)) hU hS (lv_sub hl [3, 4, 5, 1, 0] rfl)
          · refine lv_iload_n hF.1 hF.2.1 dX12_latest_34 rfl (lv_at hl 2 rfl) ?_
            refine lv_if_lt (tgt := 48) hF.1 hF.2.1 dX12_latest_35 (by decide) (fun c35_10 => ?_) (fun c35_10 => ?_)
            · refine lv_iconst (v := 1) hF.1 hF.2.1 dX12_latest_48 (by decide) ?_
              refine lv_goto (tgt := 53) hF.1 hF.2.1 dX12_latest_49 (by decide) ?_
              refine lv_istore (lv' := [(5, .int 1), (0, .ref (E.2.2 1299)), (1, .int x), (2, .int y), (3, .int x3), (4, .int x4)]) hF.1 hF.2.1 dX12_latest_53 hl (by decide) rfl (fun ls hl => ?_)
              refine lv_iload hF.1 hF.2.1 dX12_latest_55 (lv_at hl 0 rfl) ?_
              refine lv_if_eq (tgt := 79) hF.1 hF.2.1 dX12_latest_57 (by decide) (fun h9 => absurd h9 (by decide)) (fun _ => ?_)
              refine lv_iload_n hF.1 hF.2.1 dX12_latest_60 rfl (lv_at hl 4 rfl) ?_
              refine lv_if_lt (tgt := 74) hF.1 hF.2.1 dX12_latest_61 (by decide) (fun c61_11 => ?_) (fun c61_11 => ?_)
              · refine lv_iload hF.1 hF.2.1 dX12_latest_74 (lv_at hl 5 rfl) ?_
                refine lv_goto (tgt := 80) hF.1 hF.2.1 dX12_latest_76 (by decide) ?_
                refine lv_istore_n (lv' := [(3, .int x4), (5, .int 1), (0, .ref (E.2.2 1299)), (1, .int x), (2, .int y), (4, .int x4)]) hF.1 hF.2.1 dX12_latest_80 rfl hl (by decide) rfl (fun ls hl => ?_)
                refine lv_iinc (v := x4 + 1) (lv' := [(4, .int (x4 + 1)), (3, .int x4), (5, .int 1), (0, .ref (E.2.2 1299)), (1, .int x), (2, .int y)]) hF.1 hF.2.1 dX12_latest_81 hl (k := 5) rfl rfl (by decide) rfl (fun ls hl => ?_)
                refine lv_goto (tgt := 5) hF.1 hF.2.1 dX12_latest_84 (by decide) ?_
                exact ih x4 (x4 + 1) u _ _ _ rfl (g_X12_latest_g_v9 u x y k x3 x4 hI hk hy h_k h_v h_f h_g h_l hs_1 c11_2 b17_6 hb_7 hs_8 c31_9 c35_10 c61_11) (g_X12_latest_g_v10 u x y k x3 x4 hI hk hy h_k h_v h_f h_g h_l hs_1 c11_2 b17_6 hb_7 hs_8 c31_9 c35_10 c61_11) (g_X12_latest_g_v11 u x y k x3 x4 hI hk hy h_k h_v h_f h_g h_l hs_1 c11_2 b17_6 hb_7 hs_8 c31_9 c35_10 c61_11) (g_X12_latest_g_v12 u x y k x3 x4 hI hk hy h_k h_v h_f h_g h_l hs_1 c11_2 b17_6 hb_7 hs_8 c31_9 c35_10 c61_11) (g_X12_latest_g_v13 u x y k x3 x4 hI hk hy h_k h_v h_f h_g h_l hs_1 c11_2 b17_6 hb_7 hs_8 c31_9 c35_10 c61_11) (Nat.lt_of_lt_of_le (g_X12_latest_g_v14 u x y k x3 x4 hI hk hy h_k h_v h_f h_g h_l hs_1 c11_2 b17_6 hb_7 hs_8 c31_9 c35_10 c61_11) (Nat.lt_succ_iff.mp hmu)) hU hS (lv_sub hl [3, 4, 5, 1, 0] rfl)
              · refine lv_aload_n hF.1 hF.2.1 dX12_latest_64 rfl (lv_at hl 1 rfl) ?_
                refine lv_iload_n hF.1 hF.2.1 dX12_latest_65 rfl (lv_at hl 4 rfl) ?_
                refine lv_iload hF.1 hF.2.1 dX12_latest_66 (lv_at hl 5 rfl) ?_
                have hM9 := g_X12_isAhead_g l E A u x3 x4 k hk (g_X12_latest_g_v15 u x y k x3 x4 hI hk hy h_k h_v h_f h_g h_l hs_1 c11_2 b17_6 hb_7 hs_8 c31_9 c35_10 c61_11) (g_X12_latest_g_v16 u x y k x3 x4 hI hk hy h_k h_v h_f h_g h_l hs_1 c11_2 b17_6 hb_7 hs_8 c31_9 c35_10 c61_11) (g_X12_latest_g_v17 u x y k x3 x4 hI hk hy h_k h_v h_f h_g h_l hs_1 c11_2 b17_6 hb_7 hs_8 c31_9 c35_10 c61_11)
                have hR9 := q_runV (l := l) (e := e0) (below := bl0) (meth := me0) (R := qR 2 0 0) (cells := 0) (slots := 0) (st0 := [.int x4, .int x3, .ref (E.2.2 1299)]) (rest := []) hF hU hS hA 2 0 12 1299 rfl rfl rfl hM9 w_1742 w_1744 w_74 w_107 w_1745 (by decide +kernel) ⟨Nat.le_of_ble_eq_true rfl, Nat.le_of_ble_eq_true rfl⟩ dX12_latest_68 rfl hl.1 rfl (Nat.le_of_ble_eq_true rfl) ⟨Nat.le_of_ble_eq_true rfl, Nat.le_of_ble_eq_true rfl⟩
                refine q_calli hR9 hU.2.2.2 hS (fun r_14 u_12 H locs hw_13 hU hS => ?_)
                obtain ⟨hw_13_e, hw_13⟩ := hw_13
                rw [hw_13_e] at hU
                have hw_13 : (r_14 = 1 ∧ (d_ah k x3 x4)) ∨ (r_14 = 0 ∧ ¬ (d_ah k x3 x4)) := hw_13
                rcases hw_13 with ⟨rfl, b68_15⟩ | ⟨rfl, b68_15⟩
                · refine lv_if_eq (tgt := 79) hF.1 hF.2.1 dX12_latest_71 (by decide) (fun h9 => absurd h9 (by decide)) (fun _ => ?_)
                  refine lv_iload hF.1 hF.2.1 dX12_latest_74 (lv_at hl 5 rfl) ?_
                  refine lv_goto (tgt := 80) hF.1 hF.2.1 dX12_latest_76 (by decide) ?_
                  refine lv_istore_n (lv' := [(3, .int x4), (5, .int 1), (0, .ref (E.2.2 1299)), (1, .int x), (2, .int y), (4, .int x4)]) hF.1 hF.2.1 dX12_latest_80 rfl hl (by decide) rfl (fun ls hl => ?_)
                  refine lv_iinc (v := x4 + 1) (lv' := [(4, .int (x4 + 1)), (3, .int x4), (5, .int 1), (0, .ref (E.2.2 1299)), (1, .int x), (2, .int y)]) hF.1 hF.2.1 dX12_latest_81 hl (k := 5) rfl rfl (by decide) rfl (fun ls hl => ?_)
                  refine lv_goto (tgt := 5) hF.1 hF.2.1 dX12_latest_84 (by decide) ?_
                  exact ih x4 (x4 + 1) u _ _ _ rfl (g_X12_latest_g_v18 u x y k x3 x4 hI hk hy h_k h_v h_f h_g h_l hs_1 c11_2 b17_6 hb_7 hs_8 c31_9 c35_10 c61_11 b68_15) (g_X12_latest_g_v19 u x y k x3 x4 hI hk hy h_k h_v h_f h_g h_l hs_1 c11_2 b17_6 hb_7 hs_8 c31_9 c35_10 c61_11 b68_15) (g_X12_latest_g_v20 u x y k x3 x4 hI hk hy h_k h_v h_f h_g h_l hs_1 c11_2 b17_6 hb_7 hs_8 c31_9 c35_10 c61_11 b68_15) (g_X12_latest_g_v21 u x y k x3 x4 hI hk hy h_k h_v h_f h_g h_l hs_1 c11_2 b17_6 hb_7 hs_8 c31_9 c35_10 c61_11 b68_15) (g_X12_latest_g_v22 u x y k x3 x4 hI hk hy h_k h_v h_f h_g h_l hs_1 c11_2 b17_6 hb_7 hs_8 c31_9 c35_10 c61_11 b68_15) (Nat.lt_of_lt_of_le (g_X12_latest_g_v23 u x y k x3 x4 hI hk hy h_k h_v h_f h_g h_l hs_1 c11_2 b17_6 hb_7 hs_8 c31_9 c35_10 c61_11 b68_15) (Nat.lt_succ_iff.mp hmu)) hU hS (lv_sub hl [3, 4, 5, 1, 0] rfl)
                · refine lv_if_eq (tgt := 79) hF.1 hF.2.1 dX12_latest_71 (by decide) (fun _ => ?_) (fun h9 => absurd (by decide) h9)
                  refine lv_iload_n hF.1 hF.2.1 dX12_latest_79 rfl (lv_at hl 4 rfl) ?_
                  refine lv_istore_n (lv' := [(3, .int x3), (5, .int 1), (0, .ref (E.2.2 1299)), (1, .int x), (2, .int y), (4, .int x4)]) hF.1 hF.2.1 dX12_latest_80 rfl hl (by decide) rfl (fun ls hl => ?_)
                  refine lv_iinc (v := x4 + 1) (lv' := [(4, .int (x4 + 1)), (3, .int x3), (5, .int 1), (0, .ref (E.2.2 1299)), (1, .int x), (2, .int y)]) hF.1 hF.2.1 dX12_latest_81 hl (k := 5) rfl rfl (by decide) rfl (fun ls hl => ?_)
                  refine lv_goto (tgt := 5) hF.1 hF.2.1 dX12_latest_84 (by decide) ?_
                  exact ih x3 (x4 + 1) u _ _ _ rfl (g_X12_latest_g_v24 u x y k x3 x4 hI hk hy h_k h_v h_f h_g h_l hs_1 c11_2 b17_6 hb_7 hs_8 c31_9 c35_10 c61_11 b68_15) (g_X12_latest_g_v25 u x y k x3 x4 hI hk hy h_k h_v h_f h_g h_l hs_1 c11_2 b17_6 hb_7 hs_8 c31_9 c35_10 c61_11 b68_15) (g_X12_latest_g_v26 u x y k x3 x4 hI hk hy h_k h_v h_f h_g h_l hs_1 c11_2 b17_6 hb_7 hs_8 c31_9 c35_10 c61_11 b68_15) (g_X12_latest_g_v27 u x y k x3 x4 hI hk hy h_k h_v h_f h_g h_l hs_1 c11_2 b17_6 hb_7 hs_8 c31_9 c35_10 c61_11 b68_15) (g_X12_latest_g_v28 u x y k x3 x4 hI hk hy h_k h_v h_f h_g h_l hs_1 c11_2 b17_6 hb_7 hs_8 c31_9 c35_10 c61_11 b68_15) (Nat.lt_of_lt_of_le (g_X12_latest_g_v29 u x y k x3 x4 hI hk hy h_k h_v h_f h_g h_l hs_1 c11_2 b17_6 hb_7 hs_8 c31_9 c35_10 c61_11 b68_15) (Nat.lt_succ_iff.mp hmu)) hU hS (lv_sub hl [3, 4, 5, 1, 0] rfl)
            · refine lv_aload_n hF.1 hF.2.1 dX12_latest_38 rfl (lv_at hl 0 rfl) ?_
              refine lv_iload hF.1 hF.2.1 dX12_latest_39 (lv_at hl 4 rfl) ?_
              refine lv_iload_n hF.1 hF.2.1 dX12_latest_41 rfl (lv_at hl 2 rfl) ?_
              have hM9 := g_X12_isAhead_g l E A u x4 y k hk (g_X12_latest_g_v30 u x y k x3 x4 hI hk hy h_k h_v h_f h_g h_l hs_1 c11_2 b17_6 hb_7 hs_8 c31_9 c35_10) (g_X12_latest_g_v31 u x y k x3 x4 hI hk hy h_k h_v h_f h_g h_l hs_1 c11_2 b17_6 hb_7 hs_8 c31_9 c35_10) (g_X12_latest_g_v32 u x y k x3 x4 hI hk hy h_k h_v h_f h_g h_l hs_1 c11_2 b17_6 hb_7 hs_8 c31_9 c35_10)
              have hR9 := q_runV (l := l) (e := e0) (below := bl0) (meth := me0) (R := qR 2 0 0) (cells := 0) (slots := 0) (st0 := [.int y, .int x4, .ref (E.2.2 1299)]) (rest := []) hF hU hS hA 2 0 12 1299 rfl rfl rfl hM9 w_1742 w_1744 w_74 w_107 w_1745 (by decide +kernel) ⟨Nat.le_of_ble_eq_true rfl, Nat.le_of_ble_eq_true rfl⟩ dX12_latest_42 rfl hl.1 rfl (Nat.le_of_ble_eq_true rfl) ⟨Nat.le_of_ble_eq_true rfl, Nat.le_of_ble_eq_true rfl⟩
              refine q_calli hR9 hU.2.2.2 hS (fun r_18 u_16 H locs hw_17 hU hS => ?_)
              obtain ⟨hw_17_e, hw_17⟩ := hw_17
              rw [hw_17_e] at hU
              have hw_17 : (r_18 = 1 ∧ (d_ah k x4 y)) ∨ (r_18 = 0 ∧ ¬ (d_ah k x4 y)) := hw_17
              rcases hw_17 with ⟨rfl, b42_19⟩ | ⟨rfl, b42_19⟩
              · refine lv_if_eq (tgt := 52) hF.1 hF.2.1 dX12_latest_45 (by decide) (fun h9 => absurd h9 (by decide)) (fun _ => ?_)
                refine lv_iconst (v := 1) hF.1 hF.2.1 dX12_latest_48 (by decide) ?_
                refine lv_goto (tgt := 53) hF.1 hF.2.1 dX12_latest_49 (by decide) ?_
                refine lv_istore (lv' := [(5, .int 1), (0, .ref (E.2.2 1299)), (1, .int x), (2, .int y), (3, .int x3), (4, .int x4)]) hF.1 hF.2.1 dX12_latest_53 hl (by decide) rfl (fun ls hl => ?_)
                refine lv_iload hF.1 hF.2.1 dX12_latest_55 (lv_at hl 0 rfl) ?_
                refine lv_if_eq (tgt := 79) hF.1 hF.2.1 dX12_latest_57 (by decide) (fun h9 => absurd h9 (by decide)) (fun _ => ?_)
                refine lv_iload_n hF.1 hF.2.1 dX12_latest_60 rfl (lv_at hl 4 rfl) ?_
                refine lv_if_lt (tgt := 74) hF.1 hF.2.1 dX12_latest_61 (by decide) (fun c61_20 => ?_) (fun c61_20 => ?_)
                · refine lv_iload hF.1 hF.2.1 dX12_latest_74 (lv_at hl 5 rfl) ?_
                  refine lv_goto (tgt := 80) hF.1 hF.2.1 dX12_latest_76 (by decide) ?_
                  refine lv_istore_n (lv' := [(3, .int x4), (5, .int 1), (0, .ref (E.2.2 1299)), (1, .int x), (2, .int y), (4, .int x4)]) hF.1 hF.2.1 dX12_latest_80 rfl hl (by decide) rfl (fun ls hl => ?_)
                  refine lv_iinc (v := x4 + 1) (lv' := [(4, .int (x4 + 1)), (3, .int x4), (5, .int 1), (0, .ref (E.2.2 1299)), (1, .int x), (2, .int y)]) hF.1 hF.2.1 dX12_latest_81 hl (k := 5) rfl rfl (by decide) rfl (fun ls hl => ?_)
                  refine lv_goto (tgt := 5) hF.1 hF.2.1 dX12_latest_84 (by decide) ?_
                  exact ih x4 (x4 + 1) u _ _ _ rfl (g_X12_latest_g_v33 u x y k x3 x4 hI hk hy h_k h_v h_f h_g h_l hs_1 c11_2 b17_6 hb_7 hs_8 c31_9 c35_10 b42_19 c61_20) (g_X12_latest_g_v34 u x y k x3 x4 hI hk hy h_k h_v h_f h_g h_l hs_1 c11_2 b17_6 hb_7 hs_8 c31_9 c35_10 b42_19 c61_20) (g_X12_latest_g_v35 u x y k x3 x4 hI hk hy h_k h_v h_f h_g h_l hs_1 c11_2 b17_6 hb_7 hs_8 c31_9 c35_10 b42_19 c61_20) (g_X12_latest_g_v36 u x y k x3 x4 hI hk hy h_k h_v h_f h_g h_l hs_1 c11_2 b17_6 hb_7 hs_8 c31_9 c35_10 b42_19 c61_20) (g_X12_latest_g_v37 u x y k x3 x4 hI hk hy h_k h_v h_f h_g h_l hs_1 c11_2 b17_6 hb_7 hs_8 c31_9 c35_10 b42_19 c61_20) (Nat.lt_of_lt_of_le (g_X12_latest_g_v38 u x y k x3 x4 hI hk hy h_k h_v h_f h_g h_l hs_1 c11_2 b17_6 hb_7 hs_8 c31_9 c35_10 b42_19 c61_20) (Nat.lt_succ_iff.mp hmu)) hU hS (lv_sub hl [3, 4, 5, 1, 0] rfl)
                · refine lv_aload_n hF.1 hF.2.1 dX12_latest_64 rfl (lv_at hl 1 rfl) ?_
                  refine lv_iload_n hF.1 hF.2.1 dX12_latest_65 rfl (lv_at hl 4 rfl) ?_
                  refine lv_iload hF.1 hF.2.1 dX12_latest_66 (lv_at hl 5 rfl) ?_
                  have hM9 := g_X12_isAhead_g l E A u x3 x4 k hk (g_X12_latest_g_v39 u x y k x3 x4 hI hk hy h_k h_v h_f h_g h_l hs_1 c11_2 b17_6 hb_7 hs_8 c31_9 c35_10 b42_19 c61_20) (g_X12_latest_g_v40 u x y k x3 x4 hI hk hy h_k h_v h_f h_g h_l hs_1 c11_2 b17_6 hb_7 hs_8 c31_9 c35_10 b42_19 c61_20) (g_X12_latest_g_v41 u x y k x3 x4 hI hk hy h_k h_v h_f h_g h_l hs_1 c11_2 b17_6 hb_7 hs_8 c31_9 c35_10 b42_19 c61_20)
                  have hR9 := q_runV (l := l) (e := e0) (below := bl0) (meth := me0) (R := qR 2 0 0) (cells := 0) (slots := 0) (st0 := [.int x4, .int x3, .ref (E.2.2 1299)]) (rest := []) hF hU hS hA 2 0 12 1299 rfl rfl rfl hM9 w_1742 w_1744 w_74 w_107 w_1745 (by decide +kernel) ⟨Nat.le_of_ble_eq_true rfl, Nat.le_of_ble_eq_true rfl⟩ dX12_latest_68 rfl hl.1 rfl (Nat.le_of_ble_eq_true rfl) ⟨Nat.le_of_ble_eq_true rfl, Nat.le_of_ble_eq_true rfl⟩
                  refine q_calli hR9 hU.2.2.2 hS (fun r_23 u_21 H locs hw_22 hU hS => ?_)
                  obtain ⟨hw_22_e, hw_22⟩ := hw_22
                  rw [hw_22_e] at hU
                  have hw_22 : (r_23 = 1 ∧ (d_ah k x3 x4)) ∨ (r_23 = 0 ∧ ¬ (d_ah k x3 x4)) := hw_22
                  rcases hw_22 with ⟨rfl, b68_24⟩ | ⟨rfl, b68_24⟩
                  · refine lv_if_eq (tgt := 79) hF.1 hF.2.1 dX12_latest_71 (by decide) (fun h9 => absurd h9 (by decide)) (fun _ => ?_)
                    refine lv_iload hF.1 hF.2.1 dX12_latest_74 (lv_at hl 5 rfl) ?_
                    refine lv_goto (tgt := 80) hF.1 hF.2.1 dX12_latest_76 (by decide) ?_
                    refine lv_istore_n (lv' := [(3, .int x4), (5, .int 1), (0, .ref (E.2.2 1299)), (1, .int x), (2, .int y), (4, .int x4)]) hF.1 hF.2.1 dX12_latest_80 rfl hl (by decide) rfl (fun ls hl => ?_)
                    refine lv_iinc (v := x4 + 1) (lv' := [(4, .int (x4 + 1)), (3, .int x4), (5, .int 1), (0, .ref (E.2.2 1299)), (1, .int x), (2, .int y)]) hF.1 hF.2.1 dX12_latest_81 hl (k := 5) rfl rfl (by decide) rfl (fun ls hl => ?_)
                    refine lv_goto (tgt := 5) hF.1 hF.2.1 dX12_latest_84 (by decide) ?_
                    exact ih x4 (x4 + 1) u _ _ _ rfl (g_X12_latest_g_v42 u x y k x3 x4 hI hk hy h_k h_v h_f h_g h_l hs_1 c11_2 b17_6 hb_7 hs_8 c31_9 c35_10 b42_19 c61_20 b68_24) (g_X12_latest_g_v43 u x y k x3 x4 hI hk hy h_k h_v h_f h_g h_l hs_1 c11_2 b17_6 hb_7 hs_8 c31_9 c35_10 b42_19 c61_20 b68_24) (g_X12_latest_g_v44 u x y k x3 x4 hI hk hy h_k h_v h_f h_g h_l hs_1 c11_2 b17_6 hb_7 hs_8 c31_9 c35_10 b42_19 c61_20 b68_24) (g_X12_latest_g_v45 u x y k x3 x4 hI hk hy h_k h_v h_f h_g h_l hs_1 c11_2 b17_6 hb_7 hs_8 c31_9 c35_10 b42_19 c61_20 b68_24) (g_X12_latest_g_v46 u x y k x3 x4 hI hk hy h_k h_v h_f h_g h_l hs_1 c11_2 b17_6 hb_7 hs_8 c31_9 c35_10 b42_19 c61_20 b68_24) (Nat.lt_of_lt_of_le (g_X12_latest_g_v47 u x y k x3 x4 hI hk hy h_k h_v h_f h_g h_l hs_1 c11_2 b17_6 hb_7 hs_8 c31_9 c35_10 b42_19 c61_20 b68_24) (Nat.lt_succ_iff.mp hmu)) hU hS (lv_sub hl [3, 4, 5, 1, 0] rfl)
                  · refine lv_if_eq (tgt := 79) hF.1 hF.2.1 dX12_latest_71 (by decide) (fun _ => ?_) (fun h9 => absurd (by decide) h9)
                    refine lv_iload_n hF.1 hF.2.1 dX12_latest_79 rfl (lv_at hl 4 rfl) ?_
                    refine lv_istore_n (lv' := [(3, .int x3), (5, .int 1), (0, .ref (E.2.2 1299)), (1, .int x), (2, .int y), (4, .int x4)]) hF.1 hF.2.1 dX12_latest_80 rfl hl (by decide) rfl (fun ls hl => ?_)
                    refine lv_iinc (v := x4 + 1) (lv' := [(4, .int (x4 + 1)), (3, .int x3), (5, .int 1), (0, .ref (E.2.2 1299)), (1, .int x), (2, .int y)]) hF.1 hF.2.1 dX12_latest_81 hl (k := 5) rfl rfl (by decide) rfl (fun ls hl => ?_)
                    refine lv_goto (tgt := 5) hF.1 hF.2.1 dX12_latest_84 (by decide) ?_
                    exact ih x3 (x4 + 1) u _ _ _ rfl (g_X12_latest_g_v48 u x y k x3 x4 hI hk hy h_k h_v h_f h_g h_l hs_1 c11_2 b17_6 hb_7 hs_8 c31_9 c35_10 b42_19 c61_20 b68_24) (g_X12_latest_g_v49 u x y k x3 x4 hI hk hy h_k h_v h_f h_g h_l hs_1 c11_2 b17_6 hb_7 hs_8 c31_9 c35_10 b42_19 c61_20 b68_24) (g_X12_latest_g_v50 u x y k x3 x4 hI hk hy h_k h_v h_f h_g h_l hs_1 c11_2 b17_6 hb_7 hs_8 c31_9 c35_10 b42_19 c61_20 b68_24) (g_X12_latest_g_v51 u x y k x3 x4 hI hk hy h_k h_v h_f h_g h_l hs_1 c11_2 b17_6 hb_7 hs_8 c31_9 c35_10 b42_19 c61_20 b68_24) (g_X12_latest_g_v52 u x y k x3 x4 hI hk hy h_k h_v h_f h_g h_l hs_1 c11_2 b17_6 hb_7 hs_8 c31_9 c35_10 b42_19 c61_20 b68_24) (Nat.lt_of_lt_of_le (g_X12_latest_g_v53 u x y k x3 x4 hI hk hy h_k h_v h_f h_g h_l hs_1 c11_2 b17_6 hb_7 hs_8 c31_9 c35_10 b42_19 c61_20 b68_24) (Nat.lt_succ_iff.mp hmu)) hU hS (lv_sub hl [3, 4, 5, 1, 0] rfl)
              · refine lv_if_eq (tgt := 52) hF.1 hF.2.1 dX12_latest_45 (by decide) (fun _ => ?_) (fun h9 => absurd (by decide) h9)
                refine lv_iconst (v := 0) hF.1 hF.2.1 dX12_latest_52 (by decide) ?_
                refine lv_istore (lv' := [(5, .int 0), (0, .ref (E.2.2 1299)), (1, .int x), (2, .int y), (3, .int x3), (4, .int x4)]) hF.1 hF.2.1 dX12_latest_53 hl (by decide) rfl (fun ls hl => ?_)
                refine lv_iload hF.1 hF.2.1 dX12_latest_55 (lv_at hl 0 rfl) ?_
                refine lv_if_eq (tgt := 79) hF.1 hF.2.1 dX12_latest_57 (by decide) (fun _ => ?_) (fun h9 => absurd (by decide) h9)
                refine lv_iload_n hF.1 hF.2.1 dX12_latest_79 rfl (lv_at hl 4 rfl) ?_
                refine lv_istore_n (lv' := [(3, .int x3), (5, .int 0), (0, .ref (E.2.2 1299)), (1, .int x), (2, .int y), (4, .int x4)]) hF.1 hF.2.1 dX12_latest_80 rfl hl (by decide) rfl (fun ls hl => ?_)
                refine lv_iinc (v := x4 + 1) (lv' := [(4, .int (x4 + 1)), (3, .int x3), (5, .int 0), (0, .ref (E.2.2 1299)), (1, .int x), (2, .int y)]) hF.1 hF.2.1 dX12_latest_81 hl (k := 5) rfl rfl (by decide) rfl (fun ls hl => ?_)
                refine lv_goto (tgt := 5) hF.1 hF.2.1 dX12_latest_84 (by decide) ?_
                exact ih x3 (x4 + 1) u _ _ _ rfl (g_X12_latest_g_v54 u x y k x3 x4 hI hk hy h_k h_v h_f h_g h_l hs_1 c11_2 b17_6 hb_7 hs_8 c31_9 c35_10 b42_19) (g_X12_latest_g_v55 u x y k x3 x4 hI hk hy h_k h_v h_f h_g h_l hs_1 c11_2 b17_6 hb_7 hs_8 c31_9 c35_10 b42_19) (g_X12_latest_g_v56 u x y k x3 x4 hI hk hy h_k h_v h_f h_g h_l hs_1 c11_2 b17_6 hb_7 hs_8 c31_9 c35_10 b42_19) (g_X12_latest_g_v57 u x y k x3 x4 hI hk hy h_k h_v h_f h_g h_l hs_1 c11_2 b17_6 hb_7 hs_8 c31_9 c35_10 b42_19) (g_X12_latest_g_v58 u x y k x3 x4 hI hk hy h_k h_v h_f h_g h_l hs_1 c11_2 b17_6 hb_7 hs_8 c31_9 c35_10 b42_19) (Nat.lt_of_lt_of_le (g_X12_latest_g_v59 u x y k x3 x4 hI hk hy h_k h_v h_f h_g h_l hs_1 c11_2 b17_6 hb_7 hs_8 c31_9 c35_10 b42_19) (Nat.lt_succ_iff.mp hmu)) hU hS (lv_sub hl [3, 4, 5, 1, 0] rfl)
        · refine lv_if_eq (tgt := 52) hF.1 hF.2.1 dX12_latest_20 (by decide) (fun _ => ?_) (fun h9 => absurd (by decide) h9)
          refine lv_iconst (v := 0) hF.1 hF.2.1 dX12_latest_52 (by decide) ?_
          refine lv_istore (lv' := [(5, .int 0), (0, .ref (E.2.2 1299)), (1, .int x), (2, .int y), (3, .int x3), (4, .int x4)]) hF.1 hF.2.1 dX12_latest_53 hl (by decide) rfl (fun ls hl => ?_)
          refine lv_iload hF.1 hF.2.1 dX12_latest_55 (lv_at hl 0 rfl) ?_
          refine lv_if_eq (tgt := 79) hF.1 hF.2.1 dX12_latest_57 (by decide) (fun _ => ?_) (fun h9 => absurd (by decide) h9)
          refine lv_iload_n hF.1 hF.2.1 dX12_latest_79 rfl (lv_at hl 4 rfl) ?_
          refine lv_istore_n (lv' := [(3, .int x3), (5, .int 0), (0, .ref (E.2.2 1299)), (1, .int x), (2, .int y), (4, .int x4)]) hF.1 hF.2.1 dX12_latest_80 rfl hl (by decide) rfl (fun ls hl => ?_)
          refine lv_iinc (v := x4 + 1) (lv' := [(4, .int (x4 + 1)), (3, .int x3), (5, .int 0), (0, .ref (E.2.2 1299)), (1, .int x), (2, .int y)]) hF.1 hF.2.1 dX12_latest_81 hl (k := 5) rfl rfl (by decide) rfl (fun ls hl => ?_)
          refine lv_goto (tgt := 5) hF.1 hF.2.1 dX12_latest_84 (by decide) ?_
          exact ih x3 (x4 + 1) u _ _ _ rfl (g_X12_latest_g_v60 u x y k x3 x4 hI hk hy h_k h_v h_f h_g h_l hs_1 c11_2 b17_6) (g_X12_latest_g_v61 u x y k x3 x4 hI hk hy h_k h_v h_f h_g h_l hs_1 c11_2 b17_6) (g_X12_latest_g_v62 u x y k x3 x4 hI hk hy h_k h_v h_f h_g h_l hs_1 c11_2 b17_6) (g_X12_latest_g_v63 u x y k x3 x4 hI hk hy h_k h_v h_f h_g h_l hs_1 c11_2 b17_6) (g_X12_latest_g_v64 u x y k x3 x4 hI hk hy h_k h_v h_f h_g h_l hs_1 c11_2 b17_6) (Nat.lt_of_lt_of_le (g_X12_latest_g_v65 u x y k x3 x4 hI hk hy h_k h_v h_f h_g h_l hs_1 c11_2 b17_6) (Nat.lt_succ_iff.mp hmu)) hU hS (lv_sub hl [3, 4, 5, 1, 0] rfl)
  refine lv_iconst (v := (-1)) hF.1 hF.2.1 dX12_latest_0 (by decide) ?_
  refine lv_istore_n (lv' := [(3, .int (-1)), (0, .ref (E.2.2 1299)), (1, .int x), (2, .int y)]) hF.1 hF.2.1 dX12_latest_1 rfl hl (by decide) rfl (fun ls hl => ?_)
  refine lv_iconst (v := 0) hF.1 hF.2.1 dX12_latest_2 (by decide) ?_
  refine lv_istore (lv' := [(4, .int 0), (3, .int (-1)), (0, .ref (E.2.2 1299)), (1, .int x), (2, .int y)]) hF.1 hF.2.1 dX12_latest_3 hl (by decide) rfl (fun ls hl => ?_)
  exact (main _) ((-1) : Int32) (0 : Int32) u _ _ _ rfl (g_X12_latest_g_v66 u x y k hI hk hy) (g_X12_latest_g_v67 u x y k hI hk hy) (g_X12_latest_g_v68 u x y k hI hk hy) (g_X12_latest_g_v69 u x y k hI hk hy) (g_X12_latest_g_v70 u x y k hI hk hy) (Nat.lt_succ_self _) hU hS (lv_sub hl [2, 3, 4, 1, 0] rfl)
set_option maxRecDepth 100000 in
theorem g_X12_drawn_v0 (u : qS) (x : Int32) (y : Int32) (z : Int32) (x4 : Int64) (x6 : Int32) (hI : IM u) (h_k : 0 ≤ x6) (h_g : x6 ≤ x + 1) (h_s : (0 ≤ x ∧ x < u.1 1232) ∧ (0 ≤ y ∧ y ≤ 1427) ∧ 0 ≤ z) (h_d : x4 = d_dn z.toInt64 x6.toNatClampNeg) (c40_1 : x < (x6 : Int32)) : (-1) < (u.1 1247 : Int32) := by
  have hz1247 := hI.1.s1247
  have hz1232 := hI.1.s1232
  first | omega | ((try simp only [g_m1, Int32.lt_iff_toInt_lt, Int32.le_iff_toInt_le, ← Int32.toInt_inj, Int32.reduceToInt] at *); omega) | ((try simp only [g_m1, Int32.lt_iff_toInt_lt, Int32.le_iff_toInt_le, ← Int32.toInt_inj, Int32.reduceToInt] at *); omega) | ((try simp only [g_m1, Int32.lt_iff_toInt_lt, Int32.le_iff_toInt_le, ← Int32.toInt_inj, Int32.toInt_add, Int32.toInt_sub, Int32.toInt_mul, Int32.toInt_neg, Int32.reduceToInt, g_bm, g_bm'] at *); omega) | (have qr1 := g_rng x; have qr2 := g_rng y; have qr3 := g_rng z; have qr5 := g_rng x6; (try simp only [g_m1, Int32.lt_iff_toInt_lt, Int32.le_iff_toInt_le, ← Int32.toInt_inj, Int32.toInt_add, Int32.toInt_sub, Int32.toInt_mul, Int32.toInt_neg, Int32.reduceToInt, g_bm, g_bm'] at *); omega) | (simp only [g_m1, Int32.lt_iff_toInt_lt, Int32.le_iff_toInt_le, ← Int32.toInt_inj, Int32.toInt_add, Int32.toInt_sub, Int32.toInt_mul, Int32.toInt_neg, Int32.reduceToInt, g_bm, g_bm'] at *; simp at *; omega) | (simp_all; done)
set_option maxRecDepth 100000 in
theorem g_X12_drawn_v1 (u : qS) (x : Int32) (y : Int32) (z : Int32) (x4 : Int64) (x6 : Int32) (r_4 : Int32) (hI : IM u) (h_k : 0 ≤ x6) (h_g : x6 ≤ x + 1) (h_s : (0 ≤ x ∧ x < u.1 1232) ∧ (0 ≤ y ∧ y ≤ 1427) ∧ 0 ≤ z) (h_d : x4 = d_dn z.toInt64 x6.toNatClampNeg) (c40_1 : x < (x6 : Int32)) (hw_3 : (-1 ≤ r_4 ∧ r_4 < (u.1 1247 : Int32)) ∧ d_lz u x (-1) r_4) (c75_5 : 0 ≤ (r_4 : Int32)) : vp_in (r_4) 120 := by
  have hz1247 := hI.1.s1247
  have hz1232 := hI.1.s1232
  refine g_in ?_ ?_ <;> ((try simp only [g_m1, Int32.lt_iff_toInt_lt, Int32.le_iff_toInt_le, ← Int32.toInt_inj, Int32.toInt_add, Int32.toInt_sub, Int32.toInt_mul, Int32.toInt_neg, Int32.reduceToInt, g_bm, g_bm'] at *); omega)
set_option maxRecDepth 100000 in
theorem g_X12_drawn_v2 (u : qS) (x : Int32) (y : Int32) (z : Int32) (x4 : Int64) (x6 : Int32) (r_4 : Int32) (hI : IM u) (h_k : 0 ≤ x6) (h_g : x6 ≤ x + 1) (h_s : (0 ≤ x ∧ x < u.1 1232) ∧ (0 ≤ y ∧ y ≤ 1427) ∧ 0 ≤ z) (h_d : x4 = d_dn z.toInt64 x6.toNatClampNeg) (c40_1 : x < (x6 : Int32)) (hw_3 : (-1 ≤ r_4 ∧ r_4 < (u.1 1247 : Int32)) ∧ d_lz u x (-1) r_4) (c75_5 : 0 ≤ (r_4 : Int32)) (c102_6 : 0 ≤ ((u.2.1 1250 (r_4 : Int32).toNatClampNeg) - (u.2.1 1250 (r_4 : Int32).toNatClampNeg) / 7 * 7 : Int32)) : ¬ ((6 : Int32).toInt64) = 0 := by
  have hz1247 := hI.1.s1247
  have hz1232 := hI.1.s1232
  decide
set_option maxRecDepth 100000 in
theorem g_X12_drawn_v3 (u : qS) (x : Int32) (y : Int32) (z : Int32) (x4 : Int64) (x6 : Int32) (r_4 : Int32) (hI : IM u) (h_k : 0 ≤ x6) (h_g : x6 ≤ x + 1) (h_s : (0 ≤ x ∧ x < u.1 1232) ∧ (0 ≤ y ∧ y ≤ 1427) ∧ 0 ≤ z) (h_d : x4 = d_dn z.toInt64 x6.toNatClampNeg) (c40_1 : x < (x6 : Int32)) (hw_3 : (-1 ≤ r_4 ∧ r_4 < (u.1 1247 : Int32)) ∧ d_lz u x (-1) r_4) (c75_5 : 0 ≤ (r_4 : Int32)) (c102_6 : 0 ≤ ((u.2.1 1250 (r_4 : Int32).toNatClampNeg) - (u.2.1 1250 (r_4 : Int32).toNatClampNeg) / 7 * 7 : Int32)) : (0 ≤ x ∧ x < u.1 1232) ∧ (0 ≤ y ∧ y ≤ 1427) ∧ 0 ≤ z := by
  have hz1247 := hI.1.s1247
  have hz1232 := hI.1.s1232
  exact h_s
set_option maxRecDepth 100000 in
theorem g_X12_drawn_v4 (u : qS) (x : Int32) (y : Int32) (z : Int32) (x4 : Int64) (x6 : Int32) (r_4 : Int32) (hI : IM u) (h_k : 0 ≤ x6) (h_g : x6 ≤ x + 1) (h_s : (0 ≤ x ∧ x < u.1 1232) ∧ (0 ≤ y ∧ y ≤ 1427) ∧ 0 ≤ z) (h_d : x4 = d_dn z.toInt64 x6.toNatClampNeg) (c40_1 : x < (x6 : Int32)) (hw_3 : (-1 ≤ r_4 ∧ r_4 < (u.1 1247 : Int32)) ∧ d_lz u x (-1) r_4) (c75_5 : 0 ≤ (r_4 : Int32)) (c102_6 : 0 ≤ ((u.2.1 1250 (r_4 : Int32).toNatClampNeg) - (u.2.1 1250 (r_4 : Int32).toNatClampNeg) / 7 * 7 : Int32)) : d_lz u x (-1) r_4 := by
  have hz1247 := hI.1.s1247
  have hz1232 := hI.1.s1232
  exact (by assumption : _ ∧ d_lz u x (-1) _).2
set_option maxRecDepth 100000 in
theorem g_X12_drawn_v5 (u : qS) (x : Int32) (y : Int32) (z : Int32) (x4 : Int64) (x6 : Int32) (r_4 : Int32) (hI : IM u) (h_k : 0 ≤ x6) (h_g : x6 ≤ x + 1) (h_s : (0 ≤ x ∧ x < u.1 1232) ∧ (0 ≤ y ∧ y ≤ 1427) ∧ 0 ≤ z) (h_d : x4 = d_dn z.toInt64 x6.toNatClampNeg) (c40_1 : x < (x6 : Int32)) (hw_3 : (-1 ≤ r_4 ∧ r_4 < (u.1 1247 : Int32)) ∧ d_lz u x (-1) r_4) (c75_5 : 0 ≤ (r_4 : Int32)) (c102_6 : 0 ≤ ((u.2.1 1250 (r_4 : Int32).toNatClampNeg) - (u.2.1 1250 (r_4 : Int32).toNatClampNeg) / 7 * 7 : Int32)) : ((u.2.1 1250 (r_4 : Int32).toNatClampNeg) - (u.2.1 1250 (r_4 : Int32).toNatClampNeg) / 7 * 7).toInt = d_nt u r_4 := by
  have hz1247 := hI.1.s1247
  have hz1232 := hI.1.s1232
  first | (rw [show d_nt u _ = -1 from if_pos (by first | assumption | exact Int32.not_le.mp (by assumption))]; rfl) | (unfold d_nt; rw [if_neg (by first | assumption | exact Int32.not_lt.mpr (by assumption))])
set_option maxRecDepth 100000 in
theorem g_X12_drawn_v6 (u : qS) (x : Int32) (y : Int32) (z : Int32) (x4 : Int64) (x6 : Int32) (r_4 : Int32) (hI : IM u) (h_k : 0 ≤ x6) (h_g : x6 ≤ x + 1) (h_s : (0 ≤ x ∧ x < u.1 1232) ∧ (0 ≤ y ∧ y ≤ 1427) ∧ 0 ≤ z) (h_d : x4 = d_dn z.toInt64 x6.toNatClampNeg) (c40_1 : x < (x6 : Int32)) (hw_3 : (-1 ≤ r_4 ∧ r_4 < (u.1 1247 : Int32)) ∧ d_lz u x (-1) r_4) (c75_5 : 0 ≤ (r_4 : Int32)) (c102_6 : 0 ≤ ((u.2.1 1250 (r_4 : Int32).toNatClampNeg) - (u.2.1 1250 (r_4 : Int32).toNatClampNeg) / 7 * 7 : Int32)) : d_lo (d_dt x z).toInt ((u.2.1 1250 (r_4 : Int32).toNatClampNeg) - (u.2.1 1250 (r_4 : Int32).toNatClampNeg) / 7 * 7).toInt ((7 * y).toInt - 7 * y.toInt) (((x4 / 65536) - (x4 / 65536) / ((6 : Int32).toInt64) * ((6 : Int32).toInt64)).toInt32).toInt := by
  have hz1247 := hI.1.s1247
  have hz1232 := hI.1.s1232
  have y0 : 0 ≤ y.toInt ∧ y.toInt ≤ 1427 := ⟨Int32.le_iff_toInt_le.mp h_s.2.1.1, Int32.le_iff_toInt_le.mp h_s.2.1.2⟩
  have ey : (7 * y : Int32).toInt = 7 * y.toInt := g_mul (x := 7) (y := y) (by show _ ≤ 7 * y.toInt; omega) (by show 7 * y.toInt < _; omega)
  have ey7 : (7 * y + 7 : Int32).toInt = 7 * y.toInt + 7 := (g_add (x := 7 * y) (y := 7) (by rw [ey]; show _ ≤ 7 * y.toInt + 7; omega) (by rw [ey]; show 7 * y.toInt + 7 < _; omega)).trans (by rw [ey]; rfl)
  have dr := d_dt_r (x := x) h_s.2.2
  show d_lo _ _ ((7 * y : Int32).toInt - 7 * y.toInt) _
  rw [ey, Int.sub_self]
  have ex : (x + 1).toInt = x.toInt + 1 := (g_up (i := x) (Int32.le_iff_toInt_le.mp h_s.1.1) (by have q8 := hI.1.s1232; have q9 := Int32.lt_iff_toInt_lt.mp h_s.1.2; have q7 := Int32.le_iff_toInt_le.mp q8.2; have q6 : (20 : Int32).toInt = 20 := rfl; omega)).1
  have e6 : x6.toNatClampNeg = x.toNatClampNeg + 1 := (by have c1 := g_clamp x; have c2 := g_clamp x6; clear h_d dr; (try simp only [g_m1, Int32.lt_iff_toInt_lt, Int32.le_iff_toInt_le, ← Int32.toInt_inj, Int32.reduceToInt] at *); omega)
  have e4 : x4 / 65536 = d_dt x z := (by unfold d_dt; rw [h_d, e6])
  rw [e4]
  first
  | (rw [d_r7 dr]; exact d_lo.in7 (by first | decide | (rw [Int32.lt_iff_toInt_lt] at *; assumption) | (have w := Int32.lt_iff_toInt_lt.mp (Int32.not_le.mp (by assumption)); exact w)))
  | (rw [d_r6 dr]; exact d_lo.in6 (by first | (have w := Int32.le_iff_toInt_le.mp (Int32.not_lt.mp (by assumption)); exact w) | (have w := Int32.le_iff_toInt_le.mp (by assumption : (0 : Int32) ≤ _); exact w)) (by rw [d_m7]; exact Int.tmod_lt_of_pos _ (by decide)))
set_option maxRecDepth 100000 in
theorem g_X12_drawn_v7 (u : qS) (x : Int32) (y : Int32) (z : Int32) (x4 : Int64) (x6 : Int32) (r_4 : Int32) (hI : IM u) (h_k : 0 ≤ x6) (h_g : x6 ≤ x + 1) (h_s : (0 ≤ x ∧ x < u.1 1232) ∧ (0 ≤ y ∧ y ≤ 1427) ∧ 0 ≤ z) (h_d : x4 = d_dn z.toInt64 x6.toNatClampNeg) (c40_1 : x < (x6 : Int32)) (hw_3 : (-1 ≤ r_4 ∧ r_4 < (u.1 1247 : Int32)) ∧ d_lz u x (-1) r_4) (c75_5 : 0 ≤ (r_4 : Int32)) (c102_6 : 0 ≤ ((u.2.1 1250 (r_4 : Int32).toNatClampNeg) - (u.2.1 1250 (r_4 : Int32).toNatClampNeg) / 7 * 7 : Int32)) : ((7 * y + 7 : Int32).toInt - (7 * y).toInt).toNat < (x.toInt + 1 - x6.toInt).toNat + 5000000000 := by
  have hz1247 := hI.1.s1247
  have hz1232 := hI.1.s1232
  have y0 : 0 ≤ y.toInt ∧ y.toInt ≤ 1427 := ⟨Int32.le_iff_toInt_le.mp h_s.2.1.1, Int32.le_iff_toInt_le.mp h_s.2.1.2⟩
  have ey : (7 * y : Int32).toInt = 7 * y.toInt := g_mul (x := 7) (y := y) (by show _ ≤ 7 * y.toInt; omega) (by show 7 * y.toInt < _; omega)
  have ey7 : (7 * y + 7 : Int32).toInt = 7 * y.toInt + 7 := (g_add (x := 7 * y) (y := 7) (by rw [ey]; show _ ≤ 7 * y.toInt + 7; omega) (by rw [ey]; show 7 * y.toInt + 7 < _; omega)).trans (by rw [ey]; rfl)
  have q := g_rng (7 * y); clear h_d; (try simp only [g_m1, Int32.lt_iff_toInt_lt, Int32.le_iff_toInt_le, ← Int32.toInt_inj, Int32.reduceToInt] at *); omega
set_option maxRecDepth 100000 in
theorem g_X12_drawn_v8 (u : qS) (x : Int32) (y : Int32) (z : Int32) (x4 : Int64) (x6 : Int32) (r_4 : Int32) (hI : IM u) (h_k : 0 ≤ x6) (h_g : x6 ≤ x + 1) (h_s : (0 ≤ x ∧ x < u.1 1232) ∧ (0 ≤ y ∧ y ≤ 1427) ∧ 0 ≤ z) (h_d : x4 = d_dn z.toInt64 x6.toNatClampNeg) (c40_1 : x < (x6 : Int32)) (hw_3 : (-1 ≤ r_4 ∧ r_4 < (u.1 1247 : Int32)) ∧ d_lz u x (-1) r_4) (c75_5 : 0 ≤ (r_4 : Int32)) (c102_6 : ¬ 0 ≤ ((u.2.1 1250 (r_4 : Int32).toNatClampNeg) - (u.2.1 1250 (r_4 : Int32).toNatClampNeg) / 7 * 7 : Int32)) : ¬ ((7 : Int32).toInt64) = 0 := by
  have hz1247 := hI.1.s1247
  have hz1232 := hI.1.s1232
  decide
set_option maxRecDepth 100000 in
theorem g_X12_drawn_v9 (u : qS) (x : Int32) (y : Int32) (z : Int32) (x4 : Int64) (x6 : Int32) (r_4 : Int32) (hI : IM u) (h_k : 0 ≤ x6) (h_g : x6 ≤ x + 1) (h_s : (0 ≤ x ∧ x < u.1 1232) ∧ (0 ≤ y ∧ y ≤ 1427) ∧ 0 ≤ z) (h_d : x4 = d_dn z.toInt64 x6.toNatClampNeg) (c40_1 : x < (x6 : Int32)) (hw_3 : (-1 ≤ r_4 ∧ r_4 < (u.1 1247 : Int32)) ∧ d_lz u x (-1) r_4) (c75_5 : 0 ≤ (r_4 : Int32)) (c102_6 : ¬ 0 ≤ ((u.2.1 1250 (r_4 : Int32).toNatClampNeg) - (u.2.1 1250 (r_4 : Int32).toNatClampNeg) / 7 * 7 : Int32)) : (0 ≤ x ∧ x < u.1 1232) ∧ (0 ≤ y ∧ y ≤ 1427) ∧ 0 ≤ z := by
  have hz1247 := hI.1.s1247
  have hz1232 := hI.1.s1232
  exact h_s
set_option maxRecDepth 100000 in
theorem g_X12_drawn_v10 (u : qS) (x : Int32) (y : Int32) (z : Int32) (x4 : Int64) (x6 : Int32) (r_4 : Int32) (hI : IM u) (h_k : 0 ≤ x6) (h_g : x6 ≤ x + 1) (h_s : (0 ≤ x ∧ x < u.1 1232) ∧ (0 ≤ y ∧ y ≤ 1427) ∧ 0 ≤ z) (h_d : x4 = d_dn z.toInt64 x6.toNatClampNeg) (c40_1 : x < (x6 : Int32)) (hw_3 : (-1 ≤ r_4 ∧ r_4 < (u.1 1247 : Int32)) ∧ d_lz u x (-1) r_4) (c75_5 : 0 ≤ (r_4 : Int32)) (c102_6 : ¬ 0 ≤ ((u.2.1 1250 (r_4 : Int32).toNatClampNeg) - (u.2.1 1250 (r_4 : Int32).toNatClampNeg) / 7 * 7 : Int32)) : d_lz u x (-1) r_4 := by
  have hz1247 := hI.1.s1247
  have hz1232 := hI.1.s1232
  exact (by assumption : _ ∧ d_lz u x (-1) _).2
set_option maxRecDepth 100000 in
theorem g_X12_drawn_v11 (u : qS) (x : Int32) (y : Int32) (z : Int32) (x4 : Int64) (x6 : Int32) (r_4 : Int32) (hI : IM u) (h_k : 0 ≤ x6) (h_g : x6 ≤ x + 1) (h_s : (0 ≤ x ∧ x < u.1 1232) ∧ (0 ≤ y ∧ y ≤ 1427) ∧ 0 ≤ z) (h_d : x4 = d_dn z.toInt64 x6.toNatClampNeg) (c40_1 : x < (x6 : Int32)) (hw_3 : (-1 ≤ r_4 ∧ r_4 < (u.1 1247 : Int32)) ∧ d_lz u x (-1) r_4) (c75_5 : 0 ≤ (r_4 : Int32)) (c102_6 : ¬ 0 ≤ ((u.2.1 1250 (r_4 : Int32).toNatClampNeg) - (u.2.1 1250 (r_4 : Int32).toNatClampNeg) / 7 * 7 : Int32)) : ((u.2.1 1250 (r_4 : Int32).toNatClampNeg) - (u.2.1 1250 (r_4 : Int32).toNatClampNeg) / 7 * 7).toInt = d_nt u r_4 := by
  have hz1247 := hI.1.s1247
  have hz1232 := hI.1.s1232
  first | (rw [show d_nt u _ = -1 from if_pos (by first | assumption | exact Int32.not_le.mp (by assumption))]; rfl) | (unfold d_nt; rw [if_neg (by first | assumption | exact Int32.not_lt.mpr (by assumption))])
set_option maxRecDepth 100000 in
theorem g_X12_drawn_v12 (u : qS) (x : Int32) (y : Int32) (z : Int32) (x4 : Int64) (x6 : Int32) (r_4 : Int32) (hI : IM u) (h_k : 0 ≤ x6) (h_g : x6 ≤ x + 1) (h_s : (0 ≤ x ∧ x < u.1 1232) ∧ (0 ≤ y ∧ y ≤ 1427) ∧ 0 ≤ z) (h_d : x4 = d_dn z.toInt64 x6.toNatClampNeg) (c40_1 : x < (x6 : Int32)) (hw_3 : (-1 ≤ r_4 ∧ r_4 < (u.1 1247 : Int32)) ∧ d_lz u x (-1) r_4) (c75_5 : 0 ≤ (r_4 : Int32)) (c102_6 : ¬ 0 ≤ ((u.2.1 1250 (r_4 : Int32).toNatClampNeg) - (u.2.1 1250 (r_4 : Int32).toNatClampNeg) / 7 * 7 : Int32)) : d_lo (d_dt x z).toInt ((u.2.1 1250 (r_4 : Int32).toNatClampNeg) - (u.2.1 1250 (r_4 : Int32).toNatClampNeg) / 7 * 7).toInt ((7 * y).toInt - 7 * y.toInt) (((x4 / 65536) - (x4 / 65536) / ((7 : Int32).toInt64) * ((7 : Int32).toInt64)).toInt32).toInt := by
  have hz1247 := hI.1.s1247
  have hz1232 := hI.1.s1232
  have y0 : 0 ≤ y.toInt ∧ y.toInt ≤ 1427 := ⟨Int32.le_iff_toInt_le.mp h_s.2.1.1, Int32.le_iff_toInt_le.mp h_s.2.1.2⟩
  have ey : (7 * y : Int32).toInt = 7 * y.toInt := g_mul (x := 7) (y := y) (by show _ ≤ 7 * y.toInt; omega) (by show 7 * y.toInt < _; omega)
  have ey7 : (7 * y + 7 : Int32).toInt = 7 * y.toInt + 7 := (g_add (x := 7 * y) (y := 7) (by rw [ey]; show _ ≤ 7 * y.toInt + 7; omega) (by rw [ey]; show 7 * y.toInt + 7 < _; omega)).trans (by rw [ey]; rfl)
  have dr := d_dt_r (x := x) h_s.2.2
  show d_lo _ _ ((7 * y : Int32).toInt - 7 * y.toInt) _
  rw [ey, Int.sub_self]
  have ex : (x + 1).toInt = x.toInt + 1 := (g_up (i := x) (Int32.le_iff_toInt_le.mp h_s.1.1) (by have q8 := hI.1.s1232; have q9 := Int32.lt_iff_toInt_lt.mp h_s.1.2; have q7 := Int32.le_iff_toInt_le.mp q8.2; have q6 : (20 : Int32).toInt = 20 := rfl; omega)).1
  have e6 : x6.toNatClampNeg = x.toNatClampNeg + 1 := (by have c1 := g_clamp x; have c2 := g_clamp x6; clear h_d dr; (try simp only [g_m1, Int32.lt_iff_toInt_lt, Int32.le_iff_toInt_le, ← Int32.toInt_inj, Int32.reduceToInt] at *); omega)
  have e4 : x4 / 65536 = d_dt x z := (by unfold d_dt; rw [h_d, e6])
  rw [e4]
  first
  | (rw [d_r7 dr]; exact d_lo.in7 (by first | decide | (rw [Int32.lt_iff_toInt_lt] at *; assumption) | (have w := Int32.lt_iff_toInt_lt.mp (Int32.not_le.mp (by assumption)); exact w)))
  | (rw [d_r6 dr]; exact d_lo.in6 (by first | (have w := Int32.le_iff_toInt_le.mp (Int32.not_lt.mp (by assumption)); exact w) | (have w := Int32.le_iff_toInt_le.mp (by assumption : (0 : Int32) ≤ _); exact w)) (by rw [d_m7]; exact Int.tmod_lt_of_pos _ (by decide)))
set_option maxRecDepth 100000 in
theorem g_X12_drawn_v13 (u : qS) (x : Int32) (y : Int32) (z : Int32) (x4 : Int64) (x6 : Int32) (r_4 : Int32) (hI : IM u) (h_k : 0 ≤ x6) (h_g : x6 ≤ x + 1) (h_s : (0 ≤ x ∧ x < u.1 1232) ∧ (0 ≤ y ∧ y ≤ 1427) ∧ 0 ≤ z) (h_d : x4 = d_dn z.toInt64 x6.toNatClampNeg) (c40_1 : x < (x6 : Int32)) (hw_3 : (-1 ≤ r_4 ∧ r_4 < (u.1 1247 : Int32)) ∧ d_lz u x (-1) r_4) (c75_5 : 0 ≤ (r_4 : Int32)) (c102_6 : ¬ 0 ≤ ((u.2.1 1250 (r_4 : Int32).toNatClampNeg) - (u.2.1 1250 (r_4 : Int32).toNatClampNeg) / 7 * 7 : Int32)) : ((7 * y + 7 : Int32).toInt - (7 * y).toInt).toNat < (x.toInt + 1 - x6.toInt).toNat + 5000000000 := by
  have hz1247 := hI.1.s1247
  have hz1232 := hI.1.s1232
  have y0 : 0 ≤ y.toInt ∧ y.toInt ≤ 1427 := ⟨Int32.le_iff_toInt_le.mp h_s.2.1.1, Int32.le_iff_toInt_le.mp h_s.2.1.2⟩
  have ey : (7 * y : Int32).toInt = 7 * y.toInt := g_mul (x := 7) (y := y) (by show _ ≤ 7 * y.toInt; omega) (by show 7 * y.toInt < _; omega)
  have ey7 : (7 * y + 7 : Int32).toInt = 7 * y.toInt + 7 := (g_add (x := 7 * y) (y := 7) (by rw [ey]; show _ ≤ 7 * y.toInt + 7; omega) (by rw [ey]; show 7 * y.toInt + 7 < _; omega)).trans (by rw [ey]; rfl)
  have q := g_rng (7 * y); clear h_d; (try simp only [g_m1, Int32.lt_iff_toInt_lt, Int32.le_iff_toInt_le, ← Int32.toInt_inj, Int32.reduceToInt] at *); omega
set_option maxRecDepth 100000 in
theorem g_X12_drawn_v14 (u : qS) (x : Int32) (y : Int32) (z : Int32) (x4 : Int64) (x6 : Int32) (r_4 : Int32) (hI : IM u) (h_k : 0 ≤ x6) (h_g : x6 ≤ x + 1) (h_s : (0 ≤ x ∧ x < u.1 1232) ∧ (0 ≤ y ∧ y ≤ 1427) ∧ 0 ≤ z) (h_d : x4 = d_dn z.toInt64 x6.toNatClampNeg) (c40_1 : x < (x6 : Int32)) (hw_3 : (-1 ≤ r_4 ∧ r_4 < (u.1 1247 : Int32)) ∧ d_lz u x (-1) r_4) (c75_5 : ¬ 0 ≤ (r_4 : Int32)) : ¬ ((7 : Int32).toInt64) = 0 := by
  have hz1247 := hI.1.s1247
  have hz1232 := hI.1.s1232
  decide
set_option maxRecDepth 100000 in
theorem g_X12_drawn_v15 (u : qS) (x : Int32) (y : Int32) (z : Int32) (x4 : Int64) (x6 : Int32) (r_4 : Int32) (hI : IM u) (h_k : 0 ≤ x6) (h_g : x6 ≤ x + 1) (h_s : (0 ≤ x ∧ x < u.1 1232) ∧ (0 ≤ y ∧ y ≤ 1427) ∧ 0 ≤ z) (h_d : x4 = d_dn z.toInt64 x6.toNatClampNeg) (c40_1 : x < (x6 : Int32)) (hw_3 : (-1 ≤ r_4 ∧ r_4 < (u.1 1247 : Int32)) ∧ d_lz u x (-1) r_4) (c75_5 : ¬ 0 ≤ (r_4 : Int32)) : (0 ≤ x ∧ x < u.1 1232) ∧ (0 ≤ y ∧ y ≤ 1427) ∧ 0 ≤ z := by
  have hz1247 := hI.1.s1247
  have hz1232 := hI.1.s1232
  exact h_s
set_option maxRecDepth 100000 in
theorem g_X12_drawn_v16 (u : qS) (x : Int32) (y : Int32) (z : Int32) (x4 : Int64) (x6 : Int32) (r_4 : Int32) (hI : IM u) (h_k : 0 ≤ x6) (h_g : x6 ≤ x + 1) (h_s : (0 ≤ x ∧ x < u.1 1232) ∧ (0 ≤ y ∧ y ≤ 1427) ∧ 0 ≤ z) (h_d : x4 = d_dn z.toInt64 x6.toNatClampNeg) (c40_1 : x < (x6 : Int32)) (hw_3 : (-1 ≤ r_4 ∧ r_4 < (u.1 1247 : Int32)) ∧ d_lz u x (-1) r_4) (c75_5 : ¬ 0 ≤ (r_4 : Int32)) : d_lz u x (-1) r_4 := by
  have hz1247 := hI.1.s1247
  have hz1232 := hI.1.s1232
  exact (by assumption : _ ∧ d_lz u x (-1) _).2
set_option maxRecDepth 100000 in
theorem g_X12_drawn_v17 (u : qS) (x : Int32) (y : Int32) (z : Int32) (x4 : Int64) (x6 : Int32) (r_4 : Int32) (hI : IM u) (h_k : 0 ≤ x6) (h_g : x6 ≤ x + 1) (h_s : (0 ≤ x ∧ x < u.1 1232) ∧ (0 ≤ y ∧ y ≤ 1427) ∧ 0 ≤ z) (h_d : x4 = d_dn z.toInt64 x6.toNatClampNeg) (c40_1 : x < (x6 : Int32)) (hw_3 : (-1 ≤ r_4 ∧ r_4 < (u.1 1247 : Int32)) ∧ d_lz u x (-1) r_4) (c75_5 : ¬ 0 ≤ (r_4 : Int32)) : ((-1) : Int32).toInt = d_nt u r_4 := by
  have hz1247 := hI.1.s1247
  have hz1232 := hI.1.s1232
  first | (rw [show d_nt u _ = -1 from if_pos (by first | assumption | exact Int32.not_le.mp (by assumption))]; rfl) | (unfold d_nt; rw [if_neg (by first | assumption | exact Int32.not_lt.mpr (by assumption))])
set_option maxRecDepth 100000 in
theorem g_X12_drawn_v18 (u : qS) (x : Int32) (y : Int32) (z : Int32) (x4 : Int64) (x6 : Int32) (r_4 : Int32) (hI : IM u) (h_k : 0 ≤ x6) (h_g : x6 ≤ x + 1) (h_s : (0 ≤ x ∧ x < u.1 1232) ∧ (0 ≤ y ∧ y ≤ 1427) ∧ 0 ≤ z) (h_d : x4 = d_dn z.toInt64 x6.toNatClampNeg) (c40_1 : x < (x6 : Int32)) (hw_3 : (-1 ≤ r_4 ∧ r_4 < (u.1 1247 : Int32)) ∧ d_lz u x (-1) r_4) (c75_5 : ¬ 0 ≤ (r_4 : Int32)) : d_lo (d_dt x z).toInt ((-1) : Int32).toInt ((7 * y).toInt - 7 * y.toInt) (((x4 / 65536) - (x4 / 65536) / ((7 : Int32).toInt64) * ((7 : Int32).toInt64)).toInt32).toInt := by
  have hz1247 := hI.1.s1247
  have hz1232 := hI.1.s1232
  have y0 : 0 ≤ y.toInt ∧ y.toInt ≤ 1427 := ⟨Int32.le_iff_toInt_le.mp h_s.2.1.1, Int32.le_iff_toInt_le.mp h_s.2.1.2⟩
  have ey : (7 * y : Int32).toInt = 7 * y.toInt := g_mul (x := 7) (y := y) (by show _ ≤ 7 * y.toInt; omega) (by show 7 * y.toInt < _; omega)
  have ey7 : (7 * y + 7 : Int32).toInt = 7 * y.toInt + 7 := (g_add (x := 7 * y) (y := 7) (by rw [ey]; show _ ≤ 7 * y.toInt + 7; omega) (by rw [ey]; show 7 * y.toInt + 7 < _; omega)).trans (by rw [ey]; rfl)
  have dr := d_dt_r (x := x) h_s.2.2
  show d_lo _ _ ((7 * y : Int32).toInt - 7 * y.toInt) _
  rw [ey, Int.sub_self]
  have ex : (x + 1).toInt = x.toInt + 1 := (g_up (i := x) (Int32.le_iff_toInt_le.mp h_s.1.1) (by have q8 := hI.1.s1232; have q9 := Int32.lt_iff_toInt_lt.mp h_s.1.2; have q7 := Int32.le_iff_toInt_le.mp q8.2; have q6 : (20 : Int32).toInt = 20 := rfl; omega)).1
  have e6 : x6.toNatClampNeg = x.toNatClampNeg + 1 := (by have c1 := g_clamp x; have c2 := g_clamp x6; clear h_d dr; (try simp only [g_m1, Int32.lt_iff_toInt_lt, Int32.le_iff_toInt_le, ← Int32.toInt_inj, Int32.reduceToInt] at *); omega)
  have e4 : x4 / 65536 = d_dt x z := (by unfold d_dt; rw [h_d, e6])
  rw [e4]
  first
  | (rw [d_r7 dr]; exact d_lo.in7 (by first | decide | (rw [Int32.lt_iff_toInt_lt] at *; assumption) | (have w := Int32.lt_iff_toInt_lt.mp (Int32.not_le.mp (by assumption)); exact w)))
  | (rw [d_r6 dr]; exact d_lo.in6 (by first | (have w := Int32.le_iff_toInt_le.mp (Int32.not_lt.mp (by assumption)); exact w) | (have w := Int32.le_iff_toInt_le.mp (by assumption : (0 : Int32) ≤ _); exact w)) (by rw [d_m7]; exact Int.tmod_lt_of_pos _ (by decide)))
set_option maxRecDepth 100000 in
theorem g_X12_drawn_v19 (u : qS) (x : Int32) (y : Int32) (z : Int32) (x4 : Int64) (x6 : Int32) (r_4 : Int32) (hI : IM u) (h_k : 0 ≤ x6) (h_g : x6 ≤ x + 1) (h_s : (0 ≤ x ∧ x < u.1 1232) ∧ (0 ≤ y ∧ y ≤ 1427) ∧ 0 ≤ z) (h_d : x4 = d_dn z.toInt64 x6.toNatClampNeg) (c40_1 : x < (x6 : Int32)) (hw_3 : (-1 ≤ r_4 ∧ r_4 < (u.1 1247 : Int32)) ∧ d_lz u x (-1) r_4) (c75_5 : ¬ 0 ≤ (r_4 : Int32)) : ((7 * y + 7 : Int32).toInt - (7 * y).toInt).toNat < (x.toInt + 1 - x6.toInt).toNat + 5000000000 := by
  have hz1247 := hI.1.s1247
  have hz1232 := hI.1.s1232
  have y0 : 0 ≤ y.toInt ∧ y.toInt ≤ 1427 := ⟨Int32.le_iff_toInt_le.mp h_s.2.1.1, Int32.le_iff_toInt_le.mp h_s.2.1.2⟩
  have ey : (7 * y : Int32).toInt = 7 * y.toInt := g_mul (x := 7) (y := y) (by show _ ≤ 7 * y.toInt; omega) (by show 7 * y.toInt < _; omega)
  have ey7 : (7 * y + 7 : Int32).toInt = 7 * y.toInt + 7 := (g_add (x := 7 * y) (y := 7) (by rw [ey]; show _ ≤ 7 * y.toInt + 7; omega) (by rw [ey]; show 7 * y.toInt + 7 < _; omega)).trans (by rw [ey]; rfl)
  have q := g_rng (7 * y); clear h_d; (try simp only [g_m1, Int32.lt_iff_toInt_lt, Int32.le_iff_toInt_le, ← Int32.toInt_inj, Int32.reduceToInt] at *); omega
set_option maxRecDepth 100000 in
theorem g_X12_drawn_v20 (u : qS) (x : Int32) (y : Int32) (z : Int32) (x4 : Int64) (x6 : Int32) (hI : IM u) (h_k : 0 ≤ x6) (h_g : x6 ≤ x + 1) (h_s : (0 ≤ x ∧ x < u.1 1232) ∧ (0 ≤ y ∧ y ≤ 1427) ∧ 0 ≤ z) (h_d : x4 = d_dn z.toInt64 x6.toNatClampNeg) (c40_1 : ¬ x < (x6 : Int32)) : 0 ≤ (x6 + 1) := by
  have hz1232 := hI.1.s1232
  have q8 := hI.1.s1232; clear h_d; (try simp only [g_m1, Int32.lt_iff_toInt_lt, Int32.le_iff_toInt_le, ← Int32.toInt_inj, Int32.toInt_add, Int32.toInt_sub, Int32.toInt_mul, Int32.toInt_neg, Int32.reduceToInt, g_bm, g_bm'] at *); omega
set_option maxRecDepth 100000 in
theorem g_X12_drawn_v21 (u : qS) (x : Int32) (y : Int32) (z : Int32) (x4 : Int64) (x6 : Int32) (hI : IM u) (h_k : 0 ≤ x6) (h_g : x6 ≤ x + 1) (h_s : (0 ≤ x ∧ x < u.1 1232) ∧ (0 ≤ y ∧ y ≤ 1427) ∧ 0 ≤ z) (h_d : x4 = d_dn z.toInt64 x6.toNatClampNeg) (c40_1 : ¬ x < (x6 : Int32)) : (x6 + 1) ≤ x + 1 := by
  have hz1232 := hI.1.s1232
  have q8 := hI.1.s1232; clear h_d; (try simp only [g_m1, Int32.lt_iff_toInt_lt, Int32.le_iff_toInt_le, ← Int32.toInt_inj, Int32.toInt_add, Int32.toInt_sub, Int32.toInt_mul, Int32.toInt_neg, Int32.reduceToInt, g_bm, g_bm'] at *); omega
set_option maxRecDepth 100000 in
theorem g_X12_drawn_v22 (u : qS) (x : Int32) (y : Int32) (z : Int32) (x4 : Int64) (x6 : Int32) (hI : IM u) (h_k : 0 ≤ x6) (h_g : x6 ≤ x + 1) (h_s : (0 ≤ x ∧ x < u.1 1232) ∧ (0 ≤ y ∧ y ≤ 1427) ∧ 0 ≤ z) (h_d : x4 = d_dn z.toInt64 x6.toNatClampNeg) (c40_1 : ¬ x < (x6 : Int32)) : (0 ≤ x ∧ x < u.1 1232) ∧ (0 ≤ y ∧ y ≤ 1427) ∧ 0 ≤ z := by
  have hz1232 := hI.1.s1232
  exact h_s
set_option maxRecDepth 100000 in
theorem g_X12_drawn_v23 (u : qS) (x : Int32) (y : Int32) (z : Int32) (x4 : Int64) (x6 : Int32) (hI : IM u) (h_k : 0 ≤ x6) (h_g : x6 ≤ x + 1) (h_s : (0 ≤ x ∧ x < u.1 1232) ∧ (0 ≤ y ∧ y ≤ 1427) ∧ 0 ≤ z) (h_d : x4 = d_dn z.toInt64 x6.toNatClampNeg) (c40_1 : ¬ x < (x6 : Int32)) : (((x4 * 1103515245) + 12345) - ((x4 * 1103515245) + 12345) / 2147483648 * 2147483648) = d_dn z.toInt64 (x6 + 1).toNatClampNeg := by
  have hz1232 := hI.1.s1232
  have q0 : 0 ≤ x6.toInt := (by clear h_d; (try simp only [g_m1, Int32.lt_iff_toInt_lt, Int32.le_iff_toInt_le, ← Int32.toInt_inj, Int32.reduceToInt] at *); omega)
  have q8 := hI.1.s1232
  have q1 : x6.toInt < 1000 := (by clear h_d; (try simp only [g_m1, Int32.lt_iff_toInt_lt, Int32.le_iff_toInt_le, ← Int32.toInt_inj, Int32.reduceToInt] at *); omega)
  have e6 := (g_up (i := x6) q0 (by omega)).2
  rw [e6, h_d]; rfl
set_option maxRecDepth 100000 in
theorem g_X12_drawn_v24 (u : qS) (x : Int32) (y : Int32) (z : Int32) (x4 : Int64) (x6 : Int32) (hI : IM u) (h_k : 0 ≤ x6) (h_g : x6 ≤ x + 1) (h_s : (0 ≤ x ∧ x < u.1 1232) ∧ (0 ≤ y ∧ y ≤ 1427) ∧ 0 ≤ z) (h_d : x4 = d_dn z.toInt64 x6.toNatClampNeg) (c40_1 : ¬ x < (x6 : Int32)) : (x.toInt + 1 - (x6 + 1).toInt).toNat + 5000000000 < (x.toInt + 1 - x6.toInt).toNat + 5000000000 := by
  have hz1232 := hI.1.s1232
  have q8 := hI.1.s1232; clear h_d; (try simp only [g_m1, Int32.lt_iff_toInt_lt, Int32.le_iff_toInt_le, ← Int32.toInt_inj, Int32.toInt_add, Int32.toInt_sub, Int32.toInt_mul, Int32.toInt_neg, Int32.reduceToInt, g_bm, g_bm'] at *); omega
set_option maxRecDepth 100000 in
theorem g_X12_drawn_v25 (u : qS) (x : Int32) (y : Int32) (z : Int32) (x6 : Int32) (x7 : Int32) (x8 : Int32) (x9 : Int32) (hI : IM u) (h_s : (0 ≤ x ∧ x < u.1 1232) ∧ (0 ≤ y ∧ y ≤ 1427) ∧ 0 ≤ z) (h_l : d_lz u x (-1) x6) (h_n : x7.toInt = d_nt u x6) (h_o : d_lo (d_dt x z).toInt x7.toInt (x9.toInt - 7 * y.toInt) x8.toInt) (c132_7 : ((7 * y) + 7) ≤ (x9 : Int32)) : (((0 ≤ x ∧ x < u.1 1232) ∧ (0 ≤ y ∧ y ≤ 1427) ∧ 0 ≤ z) ∧ ∃ l, d_lz u x (-1) l ∧ ((-1) : Int32).toInt = 7 * y.toInt + d_md (d_dt x z).toInt (d_nt u l)) ∨ (¬ ((0 ≤ x ∧ x < u.1 1232) ∧ (0 ≤ y ∧ y ≤ 1427) ∧ 0 ≤ z) ∧ ((-1) : Int32) = -1) := by
  have hz1232 := hI.1.s1232
  first
  | exact Or.inr ⟨fun q => (by obtain ⟨q1, q2, q3⟩ := q; first | exact absurd q1 (by assumption) | exact absurd q2 (by assumption) | exact absurd q3 (by assumption)), rfl⟩
  | (have w := (by assumption : ¬ (x9 - x9 / 7 * 7 : Int32) = x7)
     have y0 : 0 ≤ y.toInt ∧ y.toInt ≤ 1427 := ⟨Int32.le_iff_toInt_le.mp h_s.2.1.1, Int32.le_iff_toInt_le.mp h_s.2.1.2⟩
     have ey : (7 * y : Int32).toInt = 7 * y.toInt := g_mul (x := 7) (y := y) (by show _ ≤ 7 * y.toInt; omega) (by show 7 * y.toInt < _; omega)
     have ey7 : (7 * y + 7 : Int32).toInt = 7 * y.toInt + 7 := (g_add (x := 7 * y) (y := 7) (by rw [ey]; show _ ≤ 7 * y.toInt + 7; omega) (by rw [ey]; show 7 * y.toInt + 7 < _; omega)).trans (by rw [ey]; rfl)
     have lt : x9.toInt < 7 * y.toInt + 7 := (by have w := (by assumption : ¬ (7 * y + 7 : Int32) ≤ x9); rw [Int32.le_iff_toInt_le, ey7] at w; omega)
     have j0 := h_o.1
     have e9 : (x9 + 1 : Int32).toInt = x9.toInt + 1 := g_add (x := x9) (y := 1) (by show _ ≤ x9.toInt + 1; omega) (by show x9.toInt + 1 < _; omega)
     have m9 := d_m7 x9
     have t9 : x9.toInt.tmod 7 = x9.toInt - 7 * y.toInt := by rw [Int.tmod_eq_emod_of_nonneg (by omega)]; omega
     have z8 : x8.toInt = 0 := (by rw [(by assumption : (x8 : Int32) = 0)]; rfl)
     rw [z8] at h_o
     have k := h_o.ret (fun q => w (Int32.toInt_inj.mp (by omega)))
     exact Or.inl ⟨h_s, x6, h_l, by rw [← h_n, ← k]; omega⟩)
  | (exfalso
     have y0 : 0 ≤ y.toInt ∧ y.toInt ≤ 1427 := ⟨Int32.le_iff_toInt_le.mp h_s.2.1.1, Int32.le_iff_toInt_le.mp h_s.2.1.2⟩
     have ey : (7 * y : Int32).toInt = 7 * y.toInt := g_mul (x := 7) (y := y) (by show _ ≤ 7 * y.toInt; omega) (by show 7 * y.toInt < _; omega)
     have ey7 : (7 * y + 7 : Int32).toInt = 7 * y.toInt + 7 := (g_add (x := 7 * y) (y := 7) (by rw [ey]; show _ ≤ 7 * y.toInt + 7; omega) (by rw [ey]; show 7 * y.toInt + 7 < _; omega)).trans (by rw [ey]; rfl)
     have w := (by assumption : (7 * y + 7 : Int32) ≤ x9)
     rw [Int32.le_iff_toInt_le, ey7] at w
     have j0 := h_o.1
     have j7 : x9.toInt - 7 * y.toInt = 7 := by omega
     rw [j7] at h_o; exact h_o.out)
set_option maxRecDepth 100000 in
theorem g_X12_drawn_v26 (u : qS) (x : Int32) (y : Int32) (z : Int32) (x6 : Int32) (x7 : Int32) (x8 : Int32) (x9 : Int32) (hI : IM u) (h_s : (0 ≤ x ∧ x < u.1 1232) ∧ (0 ≤ y ∧ y ≤ 1427) ∧ 0 ≤ z) (h_l : d_lz u x (-1) x6) (h_n : x7.toInt = d_nt u x6) (h_o : d_lo (d_dt x z).toInt x7.toInt (x9.toInt - 7 * y.toInt) x8.toInt) (c132_7 : ¬ ((7 * y) + 7) ≤ (x9 : Int32)) (c142_8 : (x9 - x9 / 7 * 7 : Int32) = x7) : (0 ≤ x ∧ x < u.1 1232) ∧ (0 ≤ y ∧ y ≤ 1427) ∧ 0 ≤ z := by
  have hz1232 := hI.1.s1232
  exact h_s
set_option maxRecDepth 100000 in
theorem g_X12_drawn_v27 (u : qS) (x : Int32) (y : Int32) (z : Int32) (x6 : Int32) (x7 : Int32) (x8 : Int32) (x9 : Int32) (hI : IM u) (h_s : (0 ≤ x ∧ x < u.1 1232) ∧ (0 ≤ y ∧ y ≤ 1427) ∧ 0 ≤ z) (h_l : d_lz u x (-1) x6) (h_n : x7.toInt = d_nt u x6) (h_o : d_lo (d_dt x z).toInt x7.toInt (x9.toInt - 7 * y.toInt) x8.toInt) (c132_7 : ¬ ((7 * y) + 7) ≤ (x9 : Int32)) (c142_8 : (x9 - x9 / 7 * 7 : Int32) = x7) : d_lz u x (-1) x6 := by
  have hz1232 := hI.1.s1232
  exact h_l
set_option maxRecDepth 100000 in
theorem g_X12_drawn_v28 (u : qS) (x : Int32) (y : Int32) (z : Int32) (x6 : Int32) (x7 : Int32) (x8 : Int32) (x9 : Int32) (hI : IM u) (h_s : (0 ≤ x ∧ x < u.1 1232) ∧ (0 ≤ y ∧ y ≤ 1427) ∧ 0 ≤ z) (h_l : d_lz u x (-1) x6) (h_n : x7.toInt = d_nt u x6) (h_o : d_lo (d_dt x z).toInt x7.toInt (x9.toInt - 7 * y.toInt) x8.toInt) (c132_7 : ¬ ((7 * y) + 7) ≤ (x9 : Int32)) (c142_8 : (x9 - x9 / 7 * 7 : Int32) = x7) : x7.toInt = d_nt u x6 := by
  have hz1232 := hI.1.s1232
  exact h_n
set_option maxRecDepth 100000 in
theorem g_X12_drawn_v29 (u : qS) (x : Int32) (y : Int32) (z : Int32) (x6 : Int32) (x7 : Int32) (x8 : Int32) (x9 : Int32) (hI : IM u) (h_s : (0 ≤ x ∧ x < u.1 1232) ∧ (0 ≤ y ∧ y ≤ 1427) ∧ 0 ≤ z) (h_l : d_lz u x (-1) x6) (h_n : x7.toInt = d_nt u x6) (h_o : d_lo (d_dt x z).toInt x7.toInt (x9.toInt - 7 * y.toInt) x8.toInt) (c132_7 : ¬ ((7 * y) + 7) ≤ (x9 : Int32)) (c142_8 : (x9 - x9 / 7 * 7 : Int32) = x7) : d_lo (d_dt x z).toInt x7.toInt ((x9 + 1).toInt - 7 * y.toInt) x8.toInt := by
  have hz1232 := hI.1.s1232
  have y0 : 0 ≤ y.toInt ∧ y.toInt ≤ 1427 := ⟨Int32.le_iff_toInt_le.mp h_s.2.1.1, Int32.le_iff_toInt_le.mp h_s.2.1.2⟩
  have ey : (7 * y : Int32).toInt = 7 * y.toInt := g_mul (x := 7) (y := y) (by show _ ≤ 7 * y.toInt; omega) (by show 7 * y.toInt < _; omega)
  have ey7 : (7 * y + 7 : Int32).toInt = 7 * y.toInt + 7 := (g_add (x := 7 * y) (y := 7) (by rw [ey]; show _ ≤ 7 * y.toInt + 7; omega) (by rw [ey]; show 7 * y.toInt + 7 < _; omega)).trans (by rw [ey]; rfl)
  have lt : x9.toInt < 7 * y.toInt + 7 := (by have w := (by assumption : ¬ (7 * y + 7 : Int32) ≤ x9); rw [Int32.le_iff_toInt_le, ey7] at w; omega)
  have j0 := h_o.1
  have e9 : (x9 + 1 : Int32).toInt = x9.toInt + 1 := g_add (x := x9) (y := 1) (by show _ ≤ x9.toInt + 1; omega) (by show x9.toInt + 1 < _; omega)
  have m9 := d_m7 x9
  have t9 : x9.toInt.tmod 7 = x9.toInt - 7 * y.toInt := by rw [Int.tmod_eq_emod_of_nonneg (by omega)]; omega
  have ej : (x9 + 1 : Int32).toInt - 7 * y.toInt = (x9.toInt - 7 * y.toInt) + 1 := by omega
  rw [ej]
  first
  | (have w := (by assumption : (x9 - x9 / 7 * 7 : Int32) = x7)
     exact h_o.pass (by omega) (by rw [← t9, ← m9, w]))
  | (have w := (by assumption : ¬ (x9 - x9 / 7 * 7 : Int32) = x7)
     have w8 := (by assumption : ¬ (x8 : Int32) = 0)
     have r8 := g_rng x8
     have n8 : x8.toInt ≠ 0 := fun q => w8 (Int32.toInt_inj.mp q)
     have e8 : (x8 + -1 : Int32).toInt = x8.toInt - 1 := (g_add (x := x8) (y := -1) (by show _ ≤ x8.toInt + -1; omega) (by show x8.toInt + -1 < _; omega)).trans (by show x8.toInt + -1 = _; omega)
     rw [e8]
     exact h_o.go (by omega) (fun q => w (Int32.toInt_inj.mp (by omega))) n8)
set_option maxRecDepth 100000 in
theorem g_X12_drawn_v30 (u : qS) (x : Int32) (y : Int32) (z : Int32) (x6 : Int32) (x7 : Int32) (x8 : Int32) (x9 : Int32) (hI : IM u) (h_s : (0 ≤ x ∧ x < u.1 1232) ∧ (0 ≤ y ∧ y ≤ 1427) ∧ 0 ≤ z) (h_l : d_lz u x (-1) x6) (h_n : x7.toInt = d_nt u x6) (h_o : d_lo (d_dt x z).toInt x7.toInt (x9.toInt - 7 * y.toInt) x8.toInt) (c132_7 : ¬ ((7 * y) + 7) ≤ (x9 : Int32)) (c142_8 : (x9 - x9 / 7 * 7 : Int32) = x7) : ((7 * y + 7 : Int32).toInt - (x9 + 1).toInt).toNat < ((7 * y + 7 : Int32).toInt - x9.toInt).toNat := by
  have hz1232 := hI.1.s1232
  have y0 : 0 ≤ y.toInt ∧ y.toInt ≤ 1427 := ⟨Int32.le_iff_toInt_le.mp h_s.2.1.1, Int32.le_iff_toInt_le.mp h_s.2.1.2⟩
  have ey : (7 * y : Int32).toInt = 7 * y.toInt := g_mul (x := 7) (y := y) (by show _ ≤ 7 * y.toInt; omega) (by show 7 * y.toInt < _; omega)
  have ey7 : (7 * y + 7 : Int32).toInt = 7 * y.toInt + 7 := (g_add (x := 7 * y) (y := 7) (by rw [ey]; show _ ≤ 7 * y.toInt + 7; omega) (by rw [ey]; show 7 * y.toInt + 7 < _; omega)).trans (by rw [ey]; rfl)
  have lt : x9.toInt < 7 * y.toInt + 7 := (by have w := (by assumption : ¬ (7 * y + 7 : Int32) ≤ x9); rw [Int32.le_iff_toInt_le, ey7] at w; omega)
  have j0 := h_o.1
  have e9 : (x9 + 1 : Int32).toInt = x9.toInt + 1 := g_add (x := x9) (y := 1) (by show _ ≤ x9.toInt + 1; omega) (by show x9.toInt + 1 < _; omega)
  have m9 := d_m7 x9
  have t9 : x9.toInt.tmod 7 = x9.toInt - 7 * y.toInt := by rw [Int.tmod_eq_emod_of_nonneg (by omega)]; omega
  omega
set_option maxRecDepth 100000 in
theorem g_X12_drawn_v31 (u : qS) (x : Int32) (y : Int32) (z : Int32) (x6 : Int32) (x7 : Int32) (x8 : Int32) (x9 : Int32) (hI : IM u) (h_s : (0 ≤ x ∧ x < u.1 1232) ∧ (0 ≤ y ∧ y ≤ 1427) ∧ 0 ≤ z) (h_l : d_lz u x (-1) x6) (h_n : x7.toInt = d_nt u x6) (h_o : d_lo (d_dt x z).toInt x7.toInt (x9.toInt - 7 * y.toInt) x8.toInt) (c132_7 : ¬ ((7 * y) + 7) ≤ (x9 : Int32)) (c142_8 : ¬ (x9 - x9 / 7 * 7 : Int32) = x7) (c147_9 : ¬ (x8 : Int32) = 0) : (0 ≤ x ∧ x < u.1 1232) ∧ (0 ≤ y ∧ y ≤ 1427) ∧ 0 ≤ z := by
  have hz1232 := hI.1.s1232
  exact h_s
set_option maxRecDepth 100000 in
theorem g_X12_drawn_v32 (u : qS) (x : Int32) (y : Int32) (z : Int32) (x6 : Int32) (x7 : Int32) (x8 : Int32) (x9 : Int32) (hI : IM u) (h_s : (0 ≤ x ∧ x < u.1 1232) ∧ (0 ≤ y ∧ y ≤ 1427) ∧ 0 ≤ z) (h_l : d_lz u x (-1) x6) (h_n : x7.toInt = d_nt u x6) (h_o : d_lo (d_dt x z).toInt x7.toInt (x9.toInt - 7 * y.toInt) x8.toInt) (c132_7 : ¬ ((7 * y) + 7) ≤ (x9 : Int32)) (c142_8 : ¬ (x9 - x9 / 7 * 7 : Int32) = x7) (c147_9 : ¬ (x8 : Int32) = 0) : d_lz u x (-1) x6 := by
  have hz1232 := hI.1.s1232
  exact h_l
set_option maxRecDepth 100000 in
theorem g_X12_drawn_v33 (u : qS) (x : Int32) (y : Int32) (z : Int32) (x6 : Int32) (x7 : Int32) (x8 : Int32) (x9 : Int32) (hI : IM u) (h_s : (0 ≤ x ∧ x < u.1 1232) ∧ (0 ≤ y ∧ y ≤ 1427) ∧ 0 ≤ z) (h_l : d_lz u x (-1) x6) (h_n : x7.toInt = d_nt u x6) (h_o : d_lo (d_dt x z).toInt x7.toInt (x9.toInt - 7 * y.toInt) x8.toInt) (c132_7 : ¬ ((7 * y) + 7) ≤ (x9 : Int32)) (c142_8 : ¬ (x9 - x9 / 7 * 7 : Int32) = x7) (c147_9 : ¬ (x8 : Int32) = 0) : x7.toInt = d_nt u x6 := by
  have hz1232 := hI.1.s1232
  exact h_n
set_option maxRecDepth 100000 in
theorem g_X12_drawn_v34 (u : qS) (x : Int32) (y : Int32) (z : Int32) (x6 : Int32) (x7 : Int32) (x8 : Int32) (x9 : Int32) (hI : IM u) (h_s : (0 ≤ x ∧ x < u.1 1232) ∧ (0 ≤ y ∧ y ≤ 1427) ∧ 0 ≤ z) (h_l : d_lz u x (-1) x6) (h_n : x7.toInt = d_nt u x6) (h_o : d_lo (d_dt x z).toInt x7.toInt (x9.toInt - 7 * y.toInt) x8.toInt) (c132_7 : ¬ ((7 * y) + 7) ≤ (x9 : Int32)) (c142_8 : ¬ (x9 - x9 / 7 * 7 : Int32) = x7) (c147_9 : ¬ (x8 : Int32) = 0) : d_lo (d_dt x z).toInt x7.toInt ((x9 + 1).toInt - 7 * y.toInt) (x8 + (-1)).toInt := by
  have hz1232 := hI.1.s1232
  have y0 : 0 ≤ y.toInt ∧ y.toInt ≤ 1427 := ⟨Int32.le_iff_toInt_le.mp h_s.2.1.1, Int32.le_iff_toInt_le.mp h_s.2.1.2⟩
  have ey : (7 * y : Int32).toInt = 7 * y.toInt := g_mul (x := 7) (y := y) (by show _ ≤ 7 * y.toInt; omega) (by show 7 * y.toInt < _; omega)
  have ey7 : (7 * y + 7 : Int32).toInt = 7 * y.toInt + 7 := (g_add (x := 7 * y) (y := 7) (by rw [ey]; show _ ≤ 7 * y.toInt + 7; omega) (by rw [ey]; show 7 * y.toInt + 7 < _; omega)).trans (by rw [ey]; rfl)
  have lt : x9.toInt < 7 * y.toInt + 7 := (by have w := (by assumption : ¬ (7 * y + 7 : Int32) ≤ x9); rw [Int32.le_iff_toInt_le, ey7] at w; omega)
  have j0 := h_o.1
  have e9 : (x9 + 1 : Int32).toInt = x9.toInt + 1 := g_add (x := x9) (y := 1) (by show _ ≤ x9.toInt + 1; omega) (by show x9.toInt + 1 < _; omega)
  have m9 := d_m7 x9
  have t9 : x9.toInt.tmod 7 = x9.toInt - 7 * y.toInt := by rw [Int.tmod_eq_emod_of_nonneg (by omega)]; omega
  have ej : (x9 + 1 : Int32).toInt - 7 * y.toInt = (x9.toInt - 7 * y.toInt) + 1 := by omega
  rw [ej]
  first
  | (have w := (by assumption : (x9 - x9 / 7 * 7 : Int32) = x7)
     exact h_o.pass (by omega) (by rw [← t9, ← m9, w]))
  | (have w := (by assumption : ¬ (x9 - x9 / 7 * 7 : Int32) = x7)
     have w8 := (by assumption : ¬ (x8 : Int32) = 0)
     have r8 := g_rng x8
     have n8 : x8.toInt ≠ 0 := fun q => w8 (Int32.toInt_inj.mp q)
     have e8 : (x8 + -1 : Int32).toInt = x8.toInt - 1 := (g_add (x := x8) (y := -1) (by show _ ≤ x8.toInt + -1; omega) (by show x8.toInt + -1 < _; omega)).trans (by show x8.toInt + -1 = _; omega)
     rw [e8]
     exact h_o.go (by omega) (fun q => w (Int32.toInt_inj.mp (by omega))) n8)
set_option maxRecDepth 100000 in
theorem g_X12_drawn_v35 (u : qS) (x : Int32) (y : Int32) (z : Int32) (x6 : Int32) (x7 : Int32) (x8 : Int32) (x9 : Int32) (hI : IM u) (h_s : (0 ≤ x ∧ x < u.1 1232) ∧ (0 ≤ y ∧ y ≤ 1427) ∧ 0 ≤ z) (h_l : d_lz u x (-1) x6) (h_n : x7.toInt = d_nt u x6) (h_o : d_lo (d_dt x z).toInt x7.toInt (x9.toInt - 7 * y.toInt) x8.toInt) (c132_7 : ¬ ((7 * y) + 7) ≤ (x9 : Int32)) (c142_8 : ¬ (x9 - x9 / 7 * 7 : Int32) = x7) (c147_9 : ¬ (x8 : Int32) = 0) : ((7 * y + 7 : Int32).toInt - (x9 + 1).toInt).toNat < ((7 * y + 7 : Int32).toInt - x9.toInt).toNat := by
  have hz1232 := hI.1.s1232
  have y0 : 0 ≤ y.toInt ∧ y.toInt ≤ 1427 := ⟨Int32.le_iff_toInt_le.mp h_s.2.1.1, Int32.le_iff_toInt_le.mp h_s.2.1.2⟩
  have ey : (7 * y : Int32).toInt = 7 * y.toInt := g_mul (x := 7) (y := y) (by show _ ≤ 7 * y.toInt; omega) (by show 7 * y.toInt < _; omega)
  have ey7 : (7 * y + 7 : Int32).toInt = 7 * y.toInt + 7 := (g_add (x := 7 * y) (y := 7) (by rw [ey]; show _ ≤ 7 * y.toInt + 7; omega) (by rw [ey]; show 7 * y.toInt + 7 < _; omega)).trans (by rw [ey]; rfl)
  have lt : x9.toInt < 7 * y.toInt + 7 := (by have w := (by assumption : ¬ (7 * y + 7 : Int32) ≤ x9); rw [Int32.le_iff_toInt_le, ey7] at w; omega)
  have j0 := h_o.1
  have e9 : (x9 + 1 : Int32).toInt = x9.toInt + 1 := g_add (x := x9) (y := 1) (by show _ ≤ x9.toInt + 1; omega) (by show x9.toInt + 1 < _; omega)
  have m9 := d_m7 x9
  have t9 : x9.toInt.tmod 7 = x9.toInt - 7 * y.toInt := by rw [Int.tmod_eq_emod_of_nonneg (by omega)]; omega
  omega
set_option maxRecDepth 100000 in
theorem g_X12_drawn_v36 (u : qS) (x : Int32) (y : Int32) (z : Int32) (x6 : Int32) (x7 : Int32) (x8 : Int32) (x9 : Int32) (hI : IM u) (h_s : (0 ≤ x ∧ x < u.1 1232) ∧ (0 ≤ y ∧ y ≤ 1427) ∧ 0 ≤ z) (h_l : d_lz u x (-1) x6) (h_n : x7.toInt = d_nt u x6) (h_o : d_lo (d_dt x z).toInt x7.toInt (x9.toInt - 7 * y.toInt) x8.toInt) (c132_7 : ¬ ((7 * y) + 7) ≤ (x9 : Int32)) (c142_8 : ¬ (x9 - x9 / 7 * 7 : Int32) = x7) (c147_9 : (x8 : Int32) = 0) : (((0 ≤ x ∧ x < u.1 1232) ∧ (0 ≤ y ∧ y ≤ 1427) ∧ 0 ≤ z) ∧ ∃ l, d_lz u x (-1) l ∧ (x9 : Int32).toInt = 7 * y.toInt + d_md (d_dt x z).toInt (d_nt u l)) ∨ (¬ ((0 ≤ x ∧ x < u.1 1232) ∧ (0 ≤ y ∧ y ≤ 1427) ∧ 0 ≤ z) ∧ (x9 : Int32) = -1) := by
  have hz1232 := hI.1.s1232
  first
  | exact Or.inr ⟨fun q => (by obtain ⟨q1, q2, q3⟩ := q; first | exact absurd q1 (by assumption) | exact absurd q2 (by assumption) | exact absurd q3 (by assumption)), rfl⟩
  | (have w := (by assumption : ¬ (x9 - x9 / 7 * 7 : Int32) = x7)
     have y0 : 0 ≤ y.toInt ∧ y.toInt ≤ 1427 := ⟨Int32.le_iff_toInt_le.mp h_s.2.1.1, Int32.le_iff_toInt_le.mp h_s.2.1.2⟩
     have ey : (7 * y : Int32).toInt = 7 * y.toInt := g_mul (x := 7) (y := y) (by show _ ≤ 7 * y.toInt; omega) (by show 7 * y.toInt < _; omega)
     have ey7 : (7 * y + 7 : Int32).toInt = 7 * y.toInt + 7 := (g_add (x := 7 * y) (y := 7) (by rw [ey]; show _ ≤ 7 * y.toInt + 7; omega) (by rw [ey]; show 7 * y.toInt + 7 < _; omega)).trans (by rw [ey]; rfl)
     have lt : x9.toInt < 7 * y.toInt + 7 := (by have w := (by assumption : ¬ (7 * y + 7 : Int32) ≤ x9); rw [Int32.le_iff_toInt_le, ey7] at w; omega)
     have j0 := h_o.1
     have e9 : (x9 + 1 : Int32).toInt = x9.toInt + 1 := g_add (x := x9) (y := 1) (by show _ ≤ x9.toInt + 1; omega) (by show x9.toInt + 1 < _; omega)
     have m9 := d_m7 x9
     have t9 : x9.toInt.tmod 7 = x9.toInt - 7 * y.toInt := by rw [Int.tmod_eq_emod_of_nonneg (by omega)]; omega
     have z8 : x8.toInt = 0 := (by rw [(by assumption : (x8 : Int32) = 0)]; rfl)
     rw [z8] at h_o
     have k := h_o.ret (fun q => w (Int32.toInt_inj.mp (by omega)))
     exact Or.inl ⟨h_s, x6, h_l, by rw [← h_n, ← k]; omega⟩)
  | (exfalso
     have y0 : 0 ≤ y.toInt ∧ y.toInt ≤ 1427 := ⟨Int32.le_iff_toInt_le.mp h_s.2.1.1, Int32.le_iff_toInt_le.mp h_s.2.1.2⟩
     have ey : (7 * y : Int32).toInt = 7 * y.toInt := g_mul (x := 7) (y := y) (by show _ ≤ 7 * y.toInt; omega) (by show 7 * y.toInt < _; omega)
     have ey7 : (7 * y + 7 : Int32).toInt = 7 * y.toInt + 7 := (g_add (x := 7 * y) (y := 7) (by rw [ey]; show _ ≤ 7 * y.toInt + 7; omega) (by rw [ey]; show 7 * y.toInt + 7 < _; omega)).trans (by rw [ey]; rfl)
     have w := (by assumption : (7 * y + 7 : Int32) ≤ x9)
     rw [Int32.le_iff_toInt_le, ey7] at w
     have j0 := h_o.1
     have j7 : x9.toInt - 7 * y.toInt = 7 := by omega
     rw [j7] at h_o; exact h_o.out)
set_option maxRecDepth 100000 in
theorem g_X12_drawn_v37 (u : qS) (x : Int32) (y : Int32) (z : Int32) (hI : IM u) (b7_13 : 0 ≤ x ∧ x < (u.1 1232 : Int32)) (b18_17 : 0 ≤ y ∧ y ≤ 1427) (c25_18 : 0 ≤ (z : Int32)) : 0 ≤ (0 : Int32) := by
  have hz1232 := hI.1.s1232
  first | omega | ((try simp only [g_m1, Int32.lt_iff_toInt_lt, Int32.le_iff_toInt_le, ← Int32.toInt_inj, Int32.reduceToInt] at *); omega) | ((try simp only [g_m1, Int32.lt_iff_toInt_lt, Int32.le_iff_toInt_le, ← Int32.toInt_inj, Int32.reduceToInt] at *); omega) | ((try simp only [g_m1, Int32.lt_iff_toInt_lt, Int32.le_iff_toInt_le, ← Int32.toInt_inj, Int32.toInt_add, Int32.toInt_sub, Int32.toInt_mul, Int32.toInt_neg, Int32.reduceToInt, g_bm, g_bm'] at *); omega) | (have qr1 := g_rng x; have qr2 := g_rng y; have qr3 := g_rng z; (try simp only [g_m1, Int32.lt_iff_toInt_lt, Int32.le_iff_toInt_le, ← Int32.toInt_inj, Int32.toInt_add, Int32.toInt_sub, Int32.toInt_mul, Int32.toInt_neg, Int32.reduceToInt, g_bm, g_bm'] at *); omega) | (simp only [g_m1, Int32.lt_iff_toInt_lt, Int32.le_iff_toInt_le, ← Int32.toInt_inj, Int32.toInt_add, Int32.toInt_sub, Int32.toInt_mul, Int32.toInt_neg, Int32.reduceToInt, g_bm, g_bm'] at *; simp at *; omega) | (simp_all; done)
set_option maxRecDepth 100000 in
theorem g_X12_drawn_v38 (u : qS) (x : Int32) (y : Int32) (z : Int32) (hI : IM u) (b7_13 : 0 ≤ x ∧ x < (u.1 1232 : Int32)) (b18_17 : 0 ≤ y ∧ y ≤ 1427) (c25_18 : 0 ≤ (z : Int32)) : (0 : Int32) ≤ x + 1 := by
  have hz1232 := hI.1.s1232
  (try simp only [g_m1, Int32.lt_iff_toInt_lt, Int32.le_iff_toInt_le, ← Int32.toInt_inj, Int32.toInt_add, Int32.toInt_sub, Int32.toInt_mul, Int32.toInt_neg, Int32.reduceToInt, g_bm, g_bm'] at *); omega
set_option maxRecDepth 100000 in
theorem g_X12_drawn_v39 (u : qS) (x : Int32) (y : Int32) (z : Int32) (hI : IM u) (b7_13 : 0 ≤ x ∧ x < (u.1 1232 : Int32)) (b18_17 : 0 ≤ y ∧ y ≤ 1427) (c25_18 : 0 ≤ (z : Int32)) : (0 ≤ x ∧ x < u.1 1232) ∧ (0 ≤ y ∧ y ≤ 1427) ∧ 0 ≤ z := by
  have hz1232 := hI.1.s1232
  exact ⟨by assumption, by assumption, by assumption⟩
set_option maxRecDepth 100000 in
theorem g_X12_drawn_v40 (u : qS) (x : Int32) (y : Int32) (z : Int32) (hI : IM u) (b7_13 : 0 ≤ x ∧ x < (u.1 1232 : Int32)) (b18_17 : 0 ≤ y ∧ y ≤ 1427) (c25_18 : 0 ≤ (z : Int32)) : ((z : Int32).toInt64) = d_dn z.toInt64 (0 : Int32).toNatClampNeg := by
  have hz1232 := hI.1.s1232
  rfl
set_option maxRecDepth 100000 in
theorem g_X12_drawn_v41 (u : qS) (x : Int32) (y : Int32) (z : Int32) (hI : IM u) (b7_13 : 0 ≤ x ∧ x < (u.1 1232 : Int32)) (b18_17 : 0 ≤ y ∧ y ≤ 1427) (c25_18 : ¬ 0 ≤ (z : Int32)) : (((0 ≤ x ∧ x < u.1 1232) ∧ (0 ≤ y ∧ y ≤ 1427) ∧ 0 ≤ z) ∧ ∃ l, d_lz u x (-1) l ∧ ((-1) : Int32).toInt = 7 * y.toInt + d_md (d_dt x z).toInt (d_nt u l)) ∨ (¬ ((0 ≤ x ∧ x < u.1 1232) ∧ (0 ≤ y ∧ y ≤ 1427) ∧ 0 ≤ z) ∧ ((-1) : Int32) = -1) := by
  have hz1232 := hI.1.s1232
  first
  | exact Or.inr ⟨fun q => (by obtain ⟨q1, q2, q3⟩ := q; first | exact absurd q1 (by assumption) | exact absurd q2 (by assumption) | exact absurd q3 (by assumption)), rfl⟩
  | (have w := (by assumption : ¬ (x9 - x9 / 7 * 7 : Int32) = x7)
     have y0 : 0 ≤ y.toInt ∧ y.toInt ≤ 1427 := ⟨Int32.le_iff_toInt_le.mp h_s.2.1.1, Int32.le_iff_toInt_le.mp h_s.2.1.2⟩
     have ey : (7 * y : Int32).toInt = 7 * y.toInt := g_mul (x := 7) (y := y) (by show _ ≤ 7 * y.toInt; omega) (by show 7 * y.toInt < _; omega)
     have ey7 : (7 * y + 7 : Int32).toInt = 7 * y.toInt + 7 := (g_add (x := 7 * y) (y := 7) (by rw [ey]; show _ ≤ 7 * y.toInt + 7; omega) (by rw [ey]; show 7 * y.toInt + 7 < _; omega)).trans (by rw [ey]; rfl)
     have lt : x9.toInt < 7 * y.toInt + 7 := (by have w := (by assumption : ¬ (7 * y + 7 : Int32) ≤ x9); rw [Int32.le_iff_toInt_le, ey7] at w; omega)
     have j0 := h_o.1
     have e9 : (x9 + 1 : Int32).toInt = x9.toInt + 1 := g_add (x := x9) (y := 1) (by show _ ≤ x9.toInt + 1; omega) (by show x9.toInt + 1 < _; omega)
     have m9 := d_m7 x9
     have t9 : x9.toInt.tmod 7 = x9.toInt - 7 * y.toInt := by rw [Int.tmod_eq_emod_of_nonneg (by omega)]; omega
     have z8 : x8.toInt = 0 := (by rw [(by assumption : (x8 : Int32) = 0)]; rfl)
     rw [z8] at h_o
     have k := h_o.ret (fun q => w (Int32.toInt_inj.mp (by omega)))
     exact Or.inl ⟨h_s, x6, h_l, by rw [← h_n, ← k]; omega⟩)
  | (exfalso
     have y0 : 0 ≤ y.toInt ∧ y.toInt ≤ 1427 := ⟨Int32.le_iff_toInt_le.mp h_s.2.1.1, Int32.le_iff_toInt_le.mp h_s.2.1.2⟩
     have ey : (7 * y : Int32).toInt = 7 * y.toInt := g_mul (x := 7) (y := y) (by show _ ≤ 7 * y.toInt; omega) (by show 7 * y.toInt < _; omega)
     have ey7 : (7 * y + 7 : Int32).toInt = 7 * y.toInt + 7 := (g_add (x := 7 * y) (y := 7) (by rw [ey]; show _ ≤ 7 * y.toInt + 7; omega) (by rw [ey]; show 7 * y.toInt + 7 < _; omega)).trans (by rw [ey]; rfl)
     have w := (by assumption : (7 * y + 7 : Int32) ≤ x9)
     rw [Int32.le_iff_toInt_le, ey7] at w
     have j0 := h_o.1
     have j7 : x9.toInt - 7 * y.toInt = 7 := by omega
     rw [j7] at h_o; exact h_o.out)
set_option maxRecDepth 100000 in
theorem g_X12_drawn_v42 (u : qS) (x : Int32) (y : Int32) (z : Int32) (hI : IM u) (b7_13 : 0 ≤ x ∧ x < (u.1 1232 : Int32)) (b18_17 : ¬ (0 ≤ y ∧ y ≤ 1427)) : (((0 ≤ x ∧ x < u.1 1232) ∧ (0 ≤ y ∧ y ≤ 1427) ∧ 0 ≤ z) ∧ ∃ l, d_lz u x (-1) l ∧ ((-1) : Int32).toInt = 7 * y.toInt + d_md (d_dt x z).toInt (d_nt u l)) ∨ (¬ ((0 ≤ x ∧ x < u.1 1232) ∧ (0 ≤ y ∧ y ≤ 1427) ∧ 0 ≤ z) ∧ ((-1) : Int32) = -1) := by
  have hz1232 := hI.1.s1232
  first
  | exact Or.inr ⟨fun q => (by obtain ⟨q1, q2, q3⟩ := q; first | exact absurd q1 (by assumption) | exact absurd q2 (by assumption) | exact absurd q3 (by assumption)), rfl⟩
  | (have w := (by assumption : ¬ (x9 - x9 / 7 * 7 : Int32) = x7)
     have y0 : 0 ≤ y.toInt ∧ y.toInt ≤ 1427 := ⟨Int32.le_iff_toInt_le.mp h_s.2.1.1, Int32.le_iff_toInt_le.mp h_s.2.1.2⟩
     have ey : (7 * y : Int32).toInt = 7 * y.toInt := g_mul (x := 7) (y := y) (by show _ ≤ 7 * y.toInt; omega) (by show 7 * y.toInt < _; omega)
     have ey7 : (7 * y + 7 : Int32).toInt = 7 * y.toInt + 7 := (g_add (x := 7 * y) (y := 7) (by rw [ey]; show _ ≤ 7 * y.toInt + 7; omega) (by rw [ey]; show 7 * y.toInt + 7 < _; omega)).trans (by rw [ey]; rfl)
     have lt : x9.toInt < 7 * y.toInt + 7 := (by have w := (by assumption : ¬ (7 * y + 7 : Int32) ≤ x9); rw [Int32.le_iff_toInt_le, ey7] at w; omega)
     have j0 := h_o.1
     have e9 : (x9 + 1 : Int32).toInt = x9.toInt + 1 := g_add (x := x9) (y := 1) (by show _ ≤ x9.toInt + 1; omega) (by show x9.toInt + 1 < _; omega)
     have m9 := d_m7 x9
     have t9 : x9.toInt.tmod 7 = x9.toInt - 7 * y.toInt := by rw [Int.tmod_eq_emod_of_nonneg (by omega)]; omega
     have z8 : x8.toInt = 0 := (by rw [(by assumption : (x8 : Int32) = 0)]; rfl)
     rw [z8] at h_o
     have k := h_o.ret (fun q => w (Int32.toInt_inj.mp (by omega)))
     exact Or.inl ⟨h_s, x6, h_l, by rw [← h_n, ← k]; omega⟩)
  | (exfalso
     have y0 : 0 ≤ y.toInt ∧ y.toInt ≤ 1427 := ⟨Int32.le_iff_toInt_le.mp h_s.2.1.1, Int32.le_iff_toInt_le.mp h_s.2.1.2⟩
     have ey : (7 * y : Int32).toInt = 7 * y.toInt := g_mul (x := 7) (y := y) (by show _ ≤ 7 * y.toInt; omega) (by show 7 * y.toInt < _; omega)
     have ey7 : (7 * y + 7 : Int32).toInt = 7 * y.toInt + 7 := (g_add (x := 7 * y) (y := 7) (by rw [ey]; show _ ≤ 7 * y.toInt + 7; omega) (by rw [ey]; show 7 * y.toInt + 7 < _; omega)).trans (by rw [ey]; rfl)
     have w := (by assumption : (7 * y + 7 : Int32) ≤ x9)
     rw [Int32.le_iff_toInt_le, ey7] at w
     have j0 := h_o.1
     have j7 : x9.toInt - 7 * y.toInt = 7 := by omega
     rw [j7] at h_o; exact h_o.out)
set_option maxRecDepth 100000 in
theorem g_X12_drawn_v43 (u : qS) (x : Int32) (y : Int32) (z : Int32) (hI : IM u) (b7_13 : ¬ (0 ≤ x ∧ x < (u.1 1232 : Int32))) : (((0 ≤ x ∧ x < u.1 1232) ∧ (0 ≤ y ∧ y ≤ 1427) ∧ 0 ≤ z) ∧ ∃ l, d_lz u x (-1) l ∧ ((-1) : Int32).toInt = 7 * y.toInt + d_md (d_dt x z).toInt (d_nt u l)) ∨ (¬ ((0 ≤ x ∧ x < u.1 1232) ∧ (0 ≤ y ∧ y ≤ 1427) ∧ 0 ≤ z) ∧ ((-1) : Int32) = -1) := by
  have hz1232 := hI.1.s1232
  first
  | exact Or.inr ⟨fun q => (by obtain ⟨q1, q2, q3⟩ := q; first | exact absurd q1 (by assumption) | exact absurd q2 (by assumption) | exact absurd q3 (by assumption)), rfl⟩
  | (have w := (by assumption : ¬ (x9 - x9 / 7 * 7 : Int32) = x7)
     have y0 : 0 ≤ y.toInt ∧ y.toInt ≤ 1427 := ⟨Int32.le_iff_toInt_le.mp h_s.2.1.1, Int32.le_iff_toInt_le.mp h_s.2.1.2⟩
     have ey : (7 * y : Int32).toInt = 7 * y.toInt := g_mul (x := 7) (y := y) (by show _ ≤ 7 * y.toInt; omega) (by show 7 * y.toInt < _; omega)
     have ey7 : (7 * y + 7 : Int32).toInt = 7 * y.toInt + 7 := (g_add (x := 7 * y) (y := 7) (by rw [ey]; show _ ≤ 7 * y.toInt + 7; omega) (by rw [ey]; show 7 * y.toInt + 7 < _; omega)).trans (by rw [ey]; rfl)
     have lt : x9.toInt < 7 * y.toInt + 7 := (by have w := (by assumption : ¬ (7 * y + 7 : Int32) ≤ x9); rw [Int32.le_iff_toInt_le, ey7] at w; omega)
     have j0 := h_o.1
     have e9 : (x9 + 1 : Int32).toInt = x9.toInt + 1 := g_add (x := x9) (y := 1) (by show _ ≤ x9.toInt + 1; omega) (by show x9.toInt + 1 < _; omega)
     have m9 := d_m7 x9
     have t9 : x9.toInt.tmod 7 = x9.toInt - 7 * y.toInt := by rw [Int.tmod_eq_emod_of_nonneg (by omega)]; omega
     have z8 : x8.toInt = 0 := (by rw [(by assumption : (x8 : Int32) = 0)]; rfl)
     rw [z8] at h_o
     have k := h_o.ret (fun q => w (Int32.toInt_inj.mp (by omega)))
     exact Or.inl ⟨h_s, x6, h_l, by rw [← h_n, ← k]; omega⟩)
  | (exfalso
     have y0 : 0 ≤ y.toInt ∧ y.toInt ≤ 1427 := ⟨Int32.le_iff_toInt_le.mp h_s.2.1.1, Int32.le_iff_toInt_le.mp h_s.2.1.2⟩
     have ey : (7 * y : Int32).toInt = 7 * y.toInt := g_mul (x := 7) (y := y) (by show _ ≤ 7 * y.toInt; omega) (by show 7 * y.toInt < _; omega)
     have ey7 : (7 * y + 7 : Int32).toInt = 7 * y.toInt + 7 := (g_add (x := 7 * y) (y := 7) (by rw [ey]; show _ ≤ 7 * y.toInt + 7; omega) (by rw [ey]; show 7 * y.toInt + 7 < _; omega)).trans (by rw [ey]; rfl)
     have w := (by assumption : (7 * y + 7 : Int32) ≤ x9)
     rw [Int32.le_iff_toInt_le, ey7] at w
     have j0 := h_o.1
     have j7 : x9.toInt - 7 * y.toInt = 7 := by omega
     rw [j7] at h_o; exact h_o.out)
set_option maxHeartbeats 1000000 in
set_option maxRecDepth 100000 in
theorem g_X12_drawn (l : Launch) (E : qE) (A : Nat → Prop) (u : qS) (x : Int32) (y : Int32) (z : Int32) (hI : IM u) : Met l yX12_drawn (uws yX12_drawn cX12_drawn 10 (some .int)) (qR 3 0 0) (qPc E A 1 u [.ref (E.2.2 1299), .int x, .int y, .int z]) (qQi E A 1 (fun r u1 => qFr [1200] [] [] u u1 ∧ ((((0 ≤ x ∧ x < u.1 1232) ∧ (0 ≤ y ∧ y ≤ 1427) ∧ 0 ≤ z) ∧ ∃ l, d_lz u x (-1) l ∧ r.toInt = 7 * y.toInt + d_md (d_dt x z).toInt (d_nt u l)) ∨ (¬ ((0 ≤ x ∧ x < u.1 1232) ∧ (0 ≤ y ∧ y ≤ 1427) ∧ 0 ≤ z) ∧ r = -1)))) 0 0 A := by
  refine q_met (own := RX12) (f := 3) [.ref (E.2.2 1299), .int x, .int y, .int z] (by decide) (Nat.le_of_ble_eq_true rfl) rfl ?_
  intro p0 e0 s0 m0 bl0 me0 cd0 ls hF hr hlocks hU hS hA hl
  have hl : lv_has ls 10 [(0, .ref (E.2.2 1299)), (1, .int x), (2, .int y), (3, .int z)] := hl
  have hfr : qFr [1200] [] [] u u := qFr.rf
  have main : ∀ n : Nat, (∀ (x4 : Int64) (x6 : Int32) (uc : qS) (H : Heap) (locs : List Loc) (ls : Array Slot) (hfr : qFr [1200] [] [] u uc) (h_k : 0 ≤ x6) (h_g : x6 ≤ x + 1) (h_s : (0 ≤ x ∧ x < u.1 1232) ∧ (0 ≤ y ∧ y ≤ 1427) ∧ 0 ≤ z) (h_d : x4 = d_dn z.toInt64 x6.toNatClampNeg), (x.toInt + 1 - x6.toInt).toNat + 5000000000 < n → qH E A 1 uc s0 H → va_S A s0.heap H locs → lv_has ls 10 [(0, .ref (E.2.2 1299)), (1, .int x), (2, .int y), (3, .int z), (4, .long x4), (6, .int x6)] → W p0 l e0 (qR 3 0 0) s0 m0 ([.ref (E.2.2 1299), .int x, .int y, .int z] : List Value).toArray bl0 me0 cd0 H locs 0 0 (MQ bl0 (qQi E A 1 (fun r u1 => qFr [1200] [] [] u u1 ∧ ((((0 ≤ x ∧ x < u.1 1232) ∧ (0 ≤ y ∧ y ≤ 1427) ∧ 0 ≤ z) ∧ ∃ l, d_lz u x (-1) l ∧ r.toInt = 7 * y.toInt + d_md (d_dt x z).toInt (d_nt u l)) ∨ (¬ ((0 ≤ x ∧ x < u.1 1232) ∧ (0 ≤ y ∧ y ≤ 1427) ∧ 0 ≤ z) ∧ r = -1)))) ([.ref (E.2.2 1299), .int x, .int y, .int z] : List Value).toArray s0 0 0 A) (F0 m0 37 ls [])) ∧ (∀ (x4 : Int64) (x6 : Int32) (x7 : Int32) (x8 : Int32) (x9 : Int32) (uc : qS) (H : Heap) (locs : List Loc) (ls : Array Slot) (hfr : qFr [1200] [] [] u uc) (h_s : (0 ≤ x ∧ x < u.1 1232) ∧ (0 ≤ y ∧ y ≤ 1427) ∧ 0 ≤ z) (h_l : d_lz u x (-1) x6) (h_n : x7.toInt = d_nt u x6) (h_o : d_lo (d_dt x z).toInt x7.toInt (x9.toInt - 7 * y.toInt) x8.toInt), ((7 * y + 7 : Int32).toInt - x9.toInt).toNat < n → qH E A 1 uc s0 H → va_S A s0.heap H locs → lv_has ls 10 [(0, .ref (E.2.2 1299)), (1, .int x), (2, .int y), (3, .int z), (4, .long x4), (6, .int x6), (7, .int x7), (8, .int x8), (9, .int x9)] → W p0 l e0 (qR 3 0 0) s0 m0 ([.ref (E.2.2 1299), .int x, .int y, .int z] : List Value).toArray bl0 me0 cd0 H locs 0 0 (MQ bl0 (qQi E A 1 (fun r u1 => qFr [1200] [] [] u u1 ∧ ((((0 ≤ x ∧ x < u.1 1232) ∧ (0 ≤ y ∧ y ≤ 1427) ∧ 0 ≤ z) ∧ ∃ l, d_lz u x (-1) l ∧ r.toInt = 7 * y.toInt + d_md (d_dt x z).toInt (d_nt u l)) ∨ (¬ ((0 ≤ x ∧ x < u.1 1232) ∧ (0 ≤ y ∧ y ≤ 1427) ∧ 0 ≤ z) ∧ r = -1)))) ([.ref (E.2.2 1299), .int x, .int y, .int z] : List Value).toArray s0 0 0 A) (F0 m0 123 ls [])) := by
    intro n
    induction n with
    | zero => exact ⟨fun _ _ _ _ _ _ _ _ _ _ _ hmu => absurd hmu (Nat.not_lt_zero _), fun _ _ _ _ _ _ _ _ _ _ _ _ _ _ hmu => absurd hmu (Nat.not_lt_zero _)⟩
    | succ n ih =>
      refine ⟨?_, ?_⟩
      · intro x4 x6 uc H locs ls hfr h_k h_g h_s h_d hmu hU hS hl
        refine lv_iload hF.1 hF.2.1 dX12_drawn_37 (lv_at hl 5 rfl) ?_
        refine lv_iload_n hF.1 hF.2.1 dX12_drawn_39 rfl (lv_at hl 1 rfl) ?_
        refine lv_icmp_gt (tgt := 65) hF.1 hF.2.1 dX12_drawn_40 (by decide) (fun c40_1 => ?_) (fun c40_1 => ?_)
        · refine lv_aload_n hF.1 hF.2.1 dX12_drawn_65 rfl (lv_at hl 0 rfl) ?_
          refine lv_iload_n hF.1 hF.2.1 dX12_drawn_66 rfl (lv_at hl 1 rfl) ?_
          refine lv_iconst (v := (-1)) hF.1 hF.2.1 dX12_drawn_67 (by decide) ?_
          have hM9 := g_X12_latest_g l E A uc x (-1) u (hI.fr hfr (by decide) (by decide)) (IK.rf.fr hfr (by decide) (by decide)) (by rw [(hfr.1 1247 (by decide))]; exact (g_X12_drawn_v0 u x y z x4 x6 hI h_k h_g h_s h_d c40_1))
          have hR9 := q_runV (l := l) (e := e0) (below := bl0) (meth := me0) (R := qR 3 0 0) (cells := 0) (slots := 0) (st0 := [.int (-1), .int x, .ref (E.2.2 1299)]) (rest := []) hF hU hS hA 2 0 12 1299 rfl rfl rfl hM9 w_1746 w_1748 w_75 w_107 w_1749 (by decide +kernel) ⟨Nat.le_of_ble_eq_true rfl, Nat.le_of_ble_eq_true rfl⟩ dX12_drawn_68 rfl hl.1 rfl (Nat.le_of_ble_eq_true rfl) ⟨Nat.le_of_ble_eq_true rfl, Nat.le_of_ble_eq_true rfl⟩
          refine q_calli hR9 hU.2.2.2 hS (fun r_4 u_2 H locs hw_3 hU hS => ?_)
          obtain ⟨hw_3_e, hw_3⟩ := hw_3
          rw [hw_3_e] at hU
          have hw_3 : (-1 ≤ r_4 ∧ r_4 < (u.1 1247 : Int32)) ∧ d_lz u x (-1) r_4 := by rw [(hfr.1 1247 (by decide))] at hw_3; exact hw_3
          refine lv_istore (lv' := [(6, .int r_4), (0, .ref (E.2.2 1299)), (1, .int x), (2, .int y), (3, .int z), (4, .long x4)]) hF.1 hF.2.1 dX12_drawn_71 hl (by decide) rfl (fun ls hl => ?_)
          refine lv_iload hF.1 hF.2.1 dX12_drawn_73 (lv_at hl 0 rfl) ?_
          refine lv_if_ge (tgt := 82) hF.1 hF.2.1 dX12_drawn_75 (by decide) (fun c75_5 => ?_) (fun c75_5 => ?_)
          · refine lv_aload_n hF.1 hF.2.1 dX12_drawn_82 rfl (lv_at hl 1 rfl) ?_
            refine q_get (v := .ref (E.2.2 1250)) hF hU dX12_drawn_83 0 12 50 1250 1299 rfl rfl rfl rfl inX12 (by decide) (by decide) w_1379 rfl rfl ?_
            refine lv_iload hF.1 hF.2.1 dX12_drawn_86 (lv_at hl 0 rfl) ?_
            refine q_iald (v := u.2.1 1250 (r_4 : Int32).toNatClampNeg) hF hU dX12_drawn_88 29 1250 rfl rfl (g_X12_drawn_v1 u x y z x4 x6 r_4 hI h_k h_g h_s h_d c40_1 hw_3 c75_5) (congrFun (hfr.2.1 1250 (by decide)) _) ?_
            refine lv_bipush (v := 7) hF.1 hF.2.1 dX12_drawn_89 (by decide) ?_
            refine lv_irem hF.1 hF.2.1 dX12_drawn_91 (by decide) ?_
            refine lv_istore (lv' := [(7, .int ((u.2.1 1250 (r_4 : Int32).toNatClampNeg) - (u.2.1 1250 (r_4 : Int32).toNatClampNeg) / 7 * 7)), (6, .int r_4), (0, .ref (E.2.2 1299)), (1, .int x), (2, .int y), (3, .int z), (4, .long x4)]) hF.1 hF.2.1 dX12_drawn_92 hl (by decide) rfl (fun ls hl => ?_)
            refine lv_lload hF.1 hF.2.1 dX12_drawn_94 (lv_at hl 6 rfl) ?_
            refine lv_ldc2 (v := 65536) hF.1 hF.2.1 hF.2.2.2.1 (hF.2.2.2.2 _ w_1912) dX12_drawn_96 ?_
            refine lv_ldiv hF.1 hF.2.1 dX12_drawn_99 (by decide) ?_
            refine lv_iload hF.1 hF.2.1 dX12_drawn_100 (lv_at hl 0 rfl) ?_
            refine lv_if_ge (tgt := 110) hF.1 hF.2.1 dX12_drawn_102 (by decide) (fun c102_6 => ?_) (fun c102_6 => ?_)
            · refine lv_bipush (v := 6) hF.1 hF.2.1 dX12_drawn_110 (by decide) ?_
              refine lv_i2l (v := (6 : Int32).toInt64) hF.1 hF.2.1 dX12_drawn_112 rfl ?_
              refine lv_lrem hF.1 hF.2.1 dX12_drawn_113 (g_X12_drawn_v2 u x y z x4 x6 r_4 hI h_k h_g h_s h_d c40_1 hw_3 c75_5 c102_6) ?_
              refine lv_l2i (v := ((x4 / 65536) - (x4 / 65536) / ((6 : Int32).toInt64) * ((6 : Int32).toInt64)).toInt32) hF.1 hF.2.1 dX12_drawn_114 rfl ?_
              refine lv_istore (lv' := [(8, .int (((x4 / 65536) - (x4 / 65536) / ((6 : Int32).toInt64) * ((6 : Int32).toInt64)).toInt32)), (7, .int ((u.2.1 1250 (r_4 : Int32).toNatClampNeg) - (u.2.1 1250 (r_4 : Int32).toNatClampNeg) / 7 * 7)), (6, .int r_4), (0, .ref (E.2.2 1299)), (1, .int x), (2, .int y), (3, .int z), (4, .long x4)]) hF.1 hF.2.1 dX12_drawn_115 hl (by decide) rfl (fun ls hl => ?_)
              refine lv_bipush (v := 7) hF.1 hF.2.1 dX12_drawn_117 (by decide) ?_
              refine lv_iload_n hF.1 hF.2.1 dX12_drawn_119 rfl (lv_at hl 5 rfl) ?_
              refine lv_imul hF.1 hF.2.1 dX12_drawn_120 ?_
              refine lv_istore (lv' := [(9, .int (7 * y)), (8, .int (((x4 / 65536) - (x4 / 65536) / ((6 : Int32).toInt64) * ((6 : Int32).toInt64)).toInt32)), (7, .int ((u.2.1 1250 (r_4 : Int32).toNatClampNeg) - (u.2.1 1250 (r_4 : Int32).toNatClampNeg) / 7 * 7)), (6, .int r_4), (0, .ref (E.2.2 1299)), (1, .int x), (2, .int y), (3, .int z), (4, .long x4)]) hF.1 hF.2.1 dX12_drawn_121 hl (by decide) rfl (fun ls hl => ?_)
              exact ih.2 x4 r_4 ((u.2.1 1250 (r_4 : Int32).toNatClampNeg) - (u.2.1 1250 (r_4 : Int32).toNatClampNeg) / 7 * 7) (((x4 / 65536) - (x4 / 65536) / ((6 : Int32).toInt64) * ((6 : Int32).toInt64)).toInt32) (7 * y) uc _ _ _ hfr (g_X12_drawn_v3 u x y z x4 x6 r_4 hI h_k h_g h_s h_d c40_1 hw_3 c75_5 c102_6) (g_X12_drawn_v4 u x y z x4 x6 r_4 hI h_k h_g h_s h_d c40_1 hw_3 c75_5 c102_6) (g_X12_drawn_v5 u x y z x4 x6 r_4 hI h_k h_g h_s h_d c40_1 hw_3 c75_5 c102_6) (g_X12_drawn_v6 u x y z x4 x6 r_4 hI h_k h_g h_s h_d c40_1 hw_3 c75_5 c102_6) (Nat.lt_of_lt_of_le (g_X12_drawn_v7 u x y z x4 x6 r_4 hI h_k h_g h_s h_d c40_1 hw_3 c75_5 c102_6) (Nat.lt_succ_iff.mp hmu)) hU hS (lv_sub hl [4, 5, 6, 7, 8, 3, 2, 1, 0] rfl)
            · refine lv_bipush (v := 7) hF.1 hF.2.1 dX12_drawn_105 (by decide) ?_
              refine lv_goto (tgt := 112) hF.1 hF.2.1 dX12_drawn_107 (by decide) ?_
              refine lv_i2l (v := (7 : Int32).toInt64) hF.1 hF.2.1 dX12_drawn_112 rfl ?_
              refine lv_lrem hF.1 hF.2.1 dX12_drawn_113 (g_X12_drawn_v8 u x y z x4 x6 r_4 hI h_k h_g h_s h_d c40_1 hw_3 c75_5 c102_6) ?_
              refine lv_l2i (v := ((x4 / 65536) - (x4 / 65536) / ((7 : Int32).toInt64) * ((7 : Int32).toInt64)).toInt32) hF.1 hF.2.1 dX12_drawn_114 rfl ?_
              refine lv_istore (lv' := [(8, .int (((x4 / 65536) - (x4 / 65536) / ((7 : Int32).toInt64) * ((7 : Int32).toInt64)).toInt32)), (7, .int ((u.2.1 1250 (r_4 : Int32).toNatClampNeg) - (u.2.1 1250 (r_4 : Int32).toNatClampNeg) / 7 * 7)), (6, .int r_4), (0, .ref (E.2.2 1299)), (1, .int x), (2, .int y), (3, .int z), (4, .long x4)]) hF.1 hF.2.1 dX12_drawn_115 hl (by decide) rfl (fun ls hl => ?_)
              refine lv_bipush (v := 7) hF.1 hF.2.1 dX12_drawn_117 (by decide) ?_
              refine lv_iload_n hF.1 hF.2.1 dX12_drawn_119 rfl (lv_at hl 5 rfl) ?_
              refine lv_imul hF.1 hF.2.1 dX12_drawn_120 ?_
              refine lv_istore (lv' := [(9, .int (7 * y)), (8, .int (((x4 / 65536) - (x4 / 65536) / ((7 : Int32).toInt64) * ((7 : Int32).toInt64)).toInt32)), (7, .int ((u.2.1 1250 (r_4 : Int32).toNatClampNeg) - (u.2.1 1250 (r_4 : Int32).toNatClampNeg) / 7 * 7)), (6, .int r_4), (0, .ref (E.2.2 1299)), (1, .int x), (2, .int y), (3, .int z), (4, .long x4)]) hF.1 hF.2.1 dX12_drawn_121 hl (by decide) rfl (fun ls hl => ?_)
              exact ih.2 x4 r_4 ((u.2.1 1250 (r_4 : Int32).toNatClampNeg) - (u.2.1 1250 (r_4 : Int32).toNatClampNeg) / 7 * 7) (((x4 / 65536) - (x4 / 65536) / ((7 : Int32).toInt64) * ((7 : Int32).toInt64)).toInt32) (7 * y) uc _ _ _ hfr (g_X12_drawn_v9 u x y z x4 x6 r_4 hI h_k h_g h_s h_d c40_1 hw_3 c75_5 c102_6) (g_X12_drawn_v10 u x y z x4 x6 r_4 hI h_k h_g h_s h_d c40_1 hw_3 c75_5 c102_6) (g_X12_drawn_v11 u x y z x4 x6 r_4 hI h_k h_g h_s h_d c40_1 hw_3 c75_5 c102_6) (g_X12_drawn_v12 u x y z x4 x6 r_4 hI h_k h_g h_s h_d c40_1 hw_3 c75_5 c102_6) (Nat.lt_of_lt_of_le (g_X12_drawn_v13 u x y z x4 x6 r_4 hI h_k h_g h_s h_d c40_1 hw_3 c75_5 c102_6) (Nat.lt_succ_iff.mp hmu)) hU hS (lv_sub hl [4, 5, 6, 7, 8, 3, 2, 1, 0] rfl)
          · refine lv_iconst (v := (-1)) hF.1 hF.2.1 dX12_drawn_78 (by decide) ?_
            refine lv_goto (tgt := 92) hF.1 hF.2.1 dX12_drawn_79 (by decide) ?_
            refine lv_istore (lv' := [(7, .int (-1)), (6, .int r_4), (0, .ref (E.2.2 1299)), (1, .int x), (2, .int y), (3, .int z), (4, .long x4)]) hF.1 hF.2.1 dX12_drawn_92 hl (by decide) rfl (fun ls hl => ?_)
            refine lv_lload hF.1 hF.2.1 dX12_drawn_94 (lv_at hl 6 rfl) ?_
            refine lv_ldc2 (v := 65536) hF.1 hF.2.1 hF.2.2.2.1 (hF.2.2.2.2 _ w_1912) dX12_drawn_96 ?_
            refine lv_ldiv hF.1 hF.2.1 dX12_drawn_99 (by decide) ?_
            refine lv_iload hF.1 hF.2.1 dX12_drawn_100 (lv_at hl 0 rfl) ?_
            refine lv_if_ge (tgt := 110) hF.1 hF.2.1 dX12_drawn_102 (by decide) (fun h9 => absurd h9 (by decide)) (fun _ => ?_)
            refine lv_bipush (v := 7) hF.1 hF.2.1 dX12_drawn_105 (by decide) ?_
            refine lv_goto (tgt := 112) hF.1 hF.2.1 dX12_drawn_107 (by decide) ?_
            refine lv_i2l (v := (7 : Int32).toInt64) hF.1 hF.2.1 dX12_drawn_112 rfl ?_
            refine lv_lrem hF.1 hF.2.1 dX12_drawn_113 (g_X12_drawn_v14 u x y z x4 x6 r_4 hI h_k h_g h_s h_d c40_1 hw_3 c75_5) ?_
            refine lv_l2i (v := ((x4 / 65536) - (x4 / 65536) / ((7 : Int32).toInt64) * ((7 : Int32).toInt64)).toInt32) hF.1 hF.2.1 dX12_drawn_114 rfl ?_
            refine lv_istore (lv' := [(8, .int (((x4 / 65536) - (x4 / 65536) / ((7 : Int32).toInt64) * ((7 : Int32).toInt64)).toInt32)), (7, .int (-1)), (6, .int r_4), (0, .ref (E.2.2 1299)), (1, .int x), (2, .int y), (3, .int z), (4, .long x4)]) hF.1 hF.2.1 dX12_drawn_115 hl (by decide) rfl (fun ls hl => ?_)
            refine lv_bipush (v := 7) hF.1 hF.2.1 dX12_drawn_117 (by decide) ?_
            refine lv_iload_n hF.1 hF.2.1 dX12_drawn_119 rfl (lv_at hl 5 rfl) ?_
            refine lv_imul hF.1 hF.2.1 dX12_drawn_120 ?_
            refine lv_istore (lv' := [(9, .int (7 * y)), (8, .int (((x4 / 65536) - (x4 / 65536) / ((7 : Int32).toInt64) * ((7 : Int32).toInt64)).toInt32)), (7, .int (-1)), (6, .int r_4), (0, .ref (E.2.2 1299)), (1, .int x), (2, .int y), (3, .int z), (4, .long x4)]) hF.1 hF.2.1 dX12_drawn_121 hl (by decide) rfl (fun ls hl => ?_)
            exact ih.2 x4 r_4 ((-1) : Int32) (((x4 / 65536) - (x4 / 65536) / ((7 : Int32).toInt64) * ((7 : Int32).toInt64)).toInt32) (7 * y) uc _ _ _ hfr (g_X12_drawn_v15 u x y z x4 x6 r_4 hI h_k h_g h_s h_d c40_1 hw_3 c75_5) (g_X12_drawn_v16 u x y z x4 x6 r_4 hI h_k h_g h_s h_d c40_1 hw_3 c75_5) (g_X12_drawn_v17 u x y z x4 x6 r_4 hI h_k h_g h_s h_d c40_1 hw_3 c75_5) (g_X12_drawn_v18 u x y z x4 x6 r_4 hI h_k h_g h_s h_d c40_1 hw_3 c75_5) (Nat.lt_of_lt_of_le (g_X12_drawn_v19 u x y z x4 x6 r_4 hI h_k h_g h_s h_d c40_1 hw_3 c75_5) (Nat.lt_succ_iff.mp hmu)) hU hS (lv_sub hl [4, 5, 6, 7, 8, 3, 2, 1, 0] rfl)
        · refine lv_lload hF.1 hF.2.1 dX12_drawn_43 (lv_at hl 4 rfl) ?_
          refine lv_ldc2 (v := 1103515245) hF.1 hF.2.1 hF.2.2.2.1 (hF.2.2.2.2 _ w_1909) dX12_drawn_45 ?_
          refine lv_lmul hF.1 hF.2.1 dX12_drawn_48 ?_
          refine lv_ldc2 (v := 12345) hF.1 hF.2.1 hF.2.2.2.1 (hF.2.2.2.2 _ w_1910) dX12_drawn_49 ?_
          refine lv_ladd hF.1 hF.2.1 dX12_drawn_52 ?_
          refine lv_ldc2 (v := 2147483648) hF.1 hF.2.1 hF.2.2.2.1 (hF.2.2.2.2 _ w_1911) dX12_drawn_53 ?_
          refine lv_lrem hF.1 hF.2.1 dX12_drawn_56 (by decide) ?_
          refine lv_lstore (lv' := [(4, .long (((x4 * 1103515245) + 12345) - ((x4 * 1103515245) + 12345) / 2147483648 * 2147483648)), (0, .ref (E.2.2 1299)), (1, .int x), (2, .int y), (3, .int z), (6, .int x6)]) hF.1 hF.2.1 dX12_drawn_57 hl (by decide) rfl (fun ls hl => ?_)
          refine lv_iinc (v := x6 + 1) (lv' := [(6, .int (x6 + 1)), (4, .long (((x4 * 1103515245) + 12345) - ((x4 * 1103515245) + 12345) / 2147483648 * 2147483648)), (0, .ref (E.2.2 1299)), (1, .int x), (2, .int y), (3, .int z)]) hF.1 hF.2.1 dX12_drawn_59 hl (k := 5) rfl rfl (by decide) rfl (fun ls hl => ?_)
          refine lv_goto (tgt := 37) hF.1 hF.2.1 dX12_drawn_62 (by decide) ?_
          exact ih.1 (((x4 * 1103515245) + 12345) - ((x4 * 1103515245) + 12345) / 2147483648 * 2147483648) (x6 + 1) uc _ _ _ hfr (g_X12_drawn_v20 u x y z x4 x6 hI h_k h_g h_s h_d c40_1) (g_X12_drawn_v21 u x y z x4 x6 hI h_k h_g h_s h_d c40_1) (g_X12_drawn_v22 u x y z x4 x6 hI h_k h_g h_s h_d c40_1) (g_X12_drawn_v23 u x y z x4 x6 hI h_k h_g h_s h_d c40_1) (Nat.lt_of_lt_of_le (g_X12_drawn_v24 u x y z x4 x6 hI h_k h_g h_s h_d c40_1) (Nat.lt_succ_iff.mp hmu)) hU hS (lv_sub hl [2, 3, 4, 5, 1, 0] rfl)
      · intro x4 x6 x7 x8 x9 uc H locs ls hfr h_s h_l h_n h_o hmu hU hS hl
        refine lv_iload hF.1 hF.2.1 dX12_drawn_123 (lv_at hl 8 rfl) ?_
        refine lv_bipush (v := 7) hF.1 hF.2.1 dX12_drawn_125 (by decide) ?_
        refine lv_iload_n hF.1 hF.2.1 dX12_drawn_127 rfl (lv_at hl 2 rfl) ?_
        refine lv_imul hF.1 hF.2.1 dX12_drawn_128 ?_
        refine lv_bipush (v := 7) hF.1 hF.2.1 dX12_drawn_129 (by decide) ?_
        refine lv_iadd hF.1 hF.2.1 dX12_drawn_131 ?_
        refine lv_icmp_ge (tgt := 162) hF.1 hF.2.1 dX12_drawn_132 (by decide) (fun c132_7 => ?_) (fun c132_7 => ?_)
        · refine lv_iconst (v := (-1)) hF.1 hF.2.1 dX12_drawn_162 (by decide) ?_
          exact q_iret hF hr rfl hlocks hU hS dX12_drawn_163 ⟨hfr, (g_X12_drawn_v25 u x y z x6 x7 x8 x9 hI h_s h_l h_n h_o c132_7)⟩
        · refine lv_iload hF.1 hF.2.1 dX12_drawn_135 (lv_at hl 8 rfl) ?_
          refine lv_bipush (v := 7) hF.1 hF.2.1 dX12_drawn_137 (by decide) ?_
          refine lv_irem hF.1 hF.2.1 dX12_drawn_139 (by decide) ?_
          refine lv_iload hF.1 hF.2.1 dX12_drawn_140 (lv_at hl 6 rfl) ?_
          refine lv_icmp_eq (tgt := 156) hF.1 hF.2.1 dX12_drawn_142 (by decide) (fun c142_8 => ?_) (fun c142_8 => ?_)
          · refine lv_iinc (v := x9 + 1) (lv' := [(9, .int (x9 + 1)), (0, .ref (E.2.2 1299)), (1, .int x), (2, .int y), (3, .int z), (4, .long x4), (6, .int x6), (7, .int x7), (8, .int x8)]) hF.1 hF.2.1 dX12_drawn_156 hl (k := 8) rfl rfl (by decide) rfl (fun ls hl => ?_)
            refine lv_goto (tgt := 123) hF.1 hF.2.1 dX12_drawn_159 (by decide) ?_
            exact ih.2 x4 x6 x7 x8 (x9 + 1) uc _ _ _ hfr (g_X12_drawn_v26 u x y z x6 x7 x8 x9 hI h_s h_l h_n h_o c132_7 c142_8) (g_X12_drawn_v27 u x y z x6 x7 x8 x9 hI h_s h_l h_n h_o c132_7 c142_8) (g_X12_drawn_v28 u x y z x6 x7 x8 x9 hI h_s h_l h_n h_o c132_7 c142_8) (g_X12_drawn_v29 u x y z x6 x7 x8 x9 hI h_s h_l h_n h_o c132_7 c142_8) (Nat.lt_of_lt_of_le (g_X12_drawn_v30 u x y z x6 x7 x8 x9 hI h_s h_l h_n h_o c132_7 c142_8) (Nat.lt_succ_iff.mp hmu)) hU hS (lv_sub hl [1, 2, 3, 4, 5, 6, 7, 8, 0] rfl)
          · refine lv_iload hF.1 hF.2.1 dX12_drawn_145 (lv_at hl 7 rfl) ?_
            refine lv_if_ne (tgt := 153) hF.1 hF.2.1 dX12_drawn_147 (by decide) (fun c147_9 => ?_) (fun c147_9 => ?_)
            · refine lv_iinc (v := x8 + (-1)) (lv' := [(8, .int (x8 + (-1))), (0, .ref (E.2.2 1299)), (1, .int x), (2, .int y), (3, .int z), (4, .long x4), (6, .int x6), (7, .int x7), (9, .int x9)]) hF.1 hF.2.1 dX12_drawn_153 hl (k := 7) rfl rfl (by decide) rfl (fun ls hl => ?_)
              refine lv_iinc (v := x9 + 1) (lv' := [(9, .int (x9 + 1)), (8, .int (x8 + (-1))), (0, .ref (E.2.2 1299)), (1, .int x), (2, .int y), (3, .int z), (4, .long x4), (6, .int x6), (7, .int x7)]) hF.1 hF.2.1 dX12_drawn_156 hl (k := 8) rfl rfl (by decide) rfl (fun ls hl => ?_)
              refine lv_goto (tgt := 123) hF.1 hF.2.1 dX12_drawn_159 (by decide) ?_
              exact ih.2 x4 x6 x7 (x8 + (-1)) (x9 + 1) uc _ _ _ hfr (g_X12_drawn_v31 u x y z x6 x7 x8 x9 hI h_s h_l h_n h_o c132_7 c142_8 c147_9) (g_X12_drawn_v32 u x y z x6 x7 x8 x9 hI h_s h_l h_n h_o c132_7 c142_8 c147_9) (g_X12_drawn_v33 u x y z x6 x7 x8 x9 hI h_s h_l h_n h_o c132_7 c142_8 c147_9) (g_X12_drawn_v34 u x y z x6 x7 x8 x9 hI h_s h_l h_n h_o c132_7 c142_8 c147_9) (Nat.lt_of_lt_of_le (g_X12_drawn_v35 u x y z x6 x7 x8 x9 hI h_s h_l h_n h_o c132_7 c142_8 c147_9) (Nat.lt_succ_iff.mp hmu)) hU hS (lv_sub hl [2, 3, 4, 5, 6, 7, 8, 1, 0] rfl)
            · refine lv_iload hF.1 hF.2.1 dX12_drawn_150 (lv_at hl 8 rfl) ?_
              exact q_iret hF hr rfl hlocks hU hS dX12_drawn_152 ⟨hfr, (g_X12_drawn_v36 u x y z x6 x7 x8 x9 hI h_s h_l h_n h_o c132_7 c142_8 c147_9)⟩
  refine lv_aload_n hF.1 hF.2.1 dX12_drawn_0 rfl (lv_at hl 0 rfl) ?_
  refine lv_iconst (v := 0) hF.1 hF.2.1 dX12_drawn_1 (by decide) ?_
  refine q_put hF hU hS dX12_drawn_2 0 12 0 1200 1299 rfl rfl rfl rfl inX12 tyX12 tyX12_ok nmX12 (by decide) (by decide) rfl w_1329 rfl rfl rfl rfl (fun H locs hU hS => ?_)
  have hfr : qFr [1200] [] [] u (qsI u 1200 0) := hfr.setI (by decide)
  refine lv_aload_n hF.1 hF.2.1 dX12_drawn_5 rfl (lv_at hl 0 rfl) ?_
  refine lv_iload_n hF.1 hF.2.1 dX12_drawn_6 rfl (lv_at hl 1 rfl) ?_
  have hM9 := g_X12_isShop l E A (qsI u 1200 0) x
  have hR9 := q_runV (l := l) (e := e0) (below := bl0) (meth := me0) (R := qR 3 0 0) (cells := 0) (slots := 0) (st0 := [.int x, .ref (E.2.2 1299)]) (rest := []) hF hU hS hA 1 0 12 1299 rfl rfl rfl hM9 w_1710 w_1712 w_68 w_107 w_1713 (by decide +kernel) ⟨Nat.le_of_ble_eq_true rfl, Nat.le_of_ble_eq_true rfl⟩ dX12_drawn_7 rfl hl.1 rfl (Nat.le_of_ble_eq_true rfl) ⟨Nat.le_of_ble_eq_true rfl, Nat.le_of_ble_eq_true rfl⟩
  refine q_calli hR9 hU.2.2.2 hS (fun r_12 u_10 H locs hw_11 hU hS => ?_)
  obtain ⟨hw_11_e, hw_11⟩ := hw_11
  rw [hw_11_e] at hU
  have hw_11 : (r_12 = 1 ∧ (0 ≤ x ∧ x < (u.1 1232 : Int32))) ∨ (r_12 = 0 ∧ ¬ (0 ≤ x ∧ x < (u.1 1232 : Int32))) := by rw [(hfr.1 1232 (by decide))] at hw_11; exact hw_11
  rcases hw_11 with ⟨rfl, b7_13⟩ | ⟨rfl, b7_13⟩
  · refine lv_if_eq (tgt := 28) hF.1 hF.2.1 dX12_drawn_10 (by decide) (fun h9 => absurd h9 (by decide)) (fun _ => ?_)
    refine lv_iload_n hF.1 hF.2.1 dX12_drawn_13 rfl (lv_at hl 2 rfl) ?_
    refine lv_iconst (v := 0) hF.1 hF.2.1 dX12_drawn_14 (by decide) ?_
    refine lv_sipush (v := 1427) hF.1 hF.2.1 dX12_drawn_15 (by decide) ?_
    have hM9 := g_X12_within l E A (qsI u 1200 0) y 0 1427
    have hR9 := q_runS (l := l) (e := e0) (below := bl0) (meth := me0) (R := qR 3 0 0) (cells := 0) (slots := 0) (st0 := [.int 1427, .int 0, .int y]) (rest := []) hF hU hS hA 3 hM9 w_1680 w_1681 w_107 w_1682 (by decide +kernel) ⟨Nat.le_of_ble_eq_true rfl, Nat.le_of_ble_eq_true rfl⟩ dX12_drawn_18 rfl hl.1 rfl (Nat.le_of_ble_eq_true rfl) ⟨Nat.le_of_ble_eq_true rfl, Nat.le_of_ble_eq_true rfl⟩
    refine q_calli hR9 hU.2.2.2 hS (fun r_16 u_14 H locs hw_15 hU hS => ?_)
    obtain ⟨hw_15_e, hw_15⟩ := hw_15
    rw [hw_15_e] at hU
    have hw_15 : (r_16 = 1 ∧ (0 ≤ y ∧ y ≤ 1427)) ∨ (r_16 = 0 ∧ ¬ (0 ≤ y ∧ y ≤ 1427)) := hw_15
    rcases hw_15 with ⟨rfl, b18_17⟩ | ⟨rfl, b18_17⟩
    · refine lv_if_eq (tgt := 28) hF.1 hF.2.1 dX12_drawn_21 (by decide) (fun h9 => absurd h9 (by decide)) (fun _ => ?_)
      refine lv_iload_n hF.1 hF.2.1 dX12_drawn_24 rfl (lv_at hl 3 rfl) ?_
      refine lv_if_ge (tgt := 30) hF.1 hF.2.1 dX12_drawn_25 (by decide) (fun c25_18 => ?_) (fun c25_18 => ?_)
      · refine lv_iload_n hF.1 hF.2.1 dX12_drawn_30 rfl (lv_at hl 3 rfl) ?_
        refine lv_i2l (v := (z : Int32).toInt64) hF.1 hF.2.1 dX12_drawn_31 rfl ?_
        refine lv_lstore (lv' := [(4, .long ((z : Int32).toInt64)), (0, .ref (E.2.2 1299)), (1, .int x), (2, .int y), (3, .int z)]) hF.1 hF.2.1 dX12_drawn_32 hl (by decide) rfl (fun ls hl => ?_)
        refine lv_iconst (v := 0) hF.1 hF.2.1 dX12_drawn_34 (by decide) ?_
        refine lv_istore (lv' := [(6, .int 0), (4, .long ((z : Int32).toInt64)), (0, .ref (E.2.2 1299)), (1, .int x), (2, .int y), (3, .int z)]) hF.1 hF.2.1 dX12_drawn_35 hl (by decide) rfl (fun ls hl => ?_)
        exact (main _).1 ((z : Int32).toInt64) (0 : Int32) (qsI u 1200 0) _ _ _ hfr (g_X12_drawn_v37 u x y z hI b7_13 b18_17 c25_18) (g_X12_drawn_v38 u x y z hI b7_13 b18_17 c25_18) (g_X12_drawn_v39 u x y z hI b7_13 b18_17 c25_18) (g_X12_drawn_v40 u x y z hI b7_13 b18_17 c25_18) (Nat.lt_succ_self _) hU hS (lv_sub hl [2, 3, 4, 5, 1, 0] rfl)
      · refine lv_iconst (v := (-1)) hF.1 hF.2.1 dX12_drawn_28 (by decide) ?_
        exact q_iret hF hr rfl hlocks hU hS dX12_drawn_29 ⟨hfr, (g_X12_drawn_v41 u x y z hI b7_13 b18_17 c25_18)⟩
    · refine lv_if_eq (tgt := 28) hF.1 hF.2.1 dX12_drawn_21 (by decide) (fun _ => ?_) (fun h9 => absurd (by decide) h9)
      refine lv_iconst (v := (-1)) hF.1 hF.2.1 dX12_drawn_28 (by decide) ?_
      exact q_iret hF hr rfl hlocks hU hS dX12_drawn_29 ⟨hfr, (g_X12_drawn_v42 u x y z hI b7_13 b18_17)⟩
  · refine lv_if_eq (tgt := 28) hF.1 hF.2.1 dX12_drawn_10 (by decide) (fun _ => ?_) (fun h9 => absurd (by decide) h9)
    refine lv_iconst (v := (-1)) hF.1 hF.2.1 dX12_drawn_28 (by decide) ?_
    exact q_iret hF hr rfl hlocks hU hS dX12_drawn_29 ⟨hfr, (g_X12_drawn_v43 u x y z hI b7_13)⟩
