set_option maxRecDepth 100000 in
theorem g_X11_isWithin_v0 (x : Int32) (y : Int32) (z : Int32) (c2_1 : (x : Int32) < y) : (0 = (1 : Int32) ∧ (y ≤ x ∧ x ≤ z)) ∨ (0 = (0 : Int32) ∧ ¬ (y ≤ x ∧ x ≤ z)) := by
  first | omega | ((try simp only [g_m1, Int32.lt_iff_toInt_lt, Int32.le_iff_toInt_le, ← Int32.toInt_inj, Int32.reduceToInt] at *); omega) | ((try simp only [g_m1, Int32.lt_iff_toInt_lt, Int32.le_iff_toInt_le, ← Int32.toInt_inj, Int32.reduceToInt] at *); omega) | ((try simp only [g_m1, Int32.lt_iff_toInt_lt, Int32.le_iff_toInt_le, ← Int32.toInt_inj, Int32.toInt_add, Int32.toInt_sub, Int32.toInt_mul, Int32.toInt_neg, Int32.reduceToInt, g_bm, g_bm'] at *); omega) | (have qr1 := g_rng x; have qr2 := g_rng y; have qr3 := g_rng z; (try simp only [g_m1, Int32.lt_iff_toInt_lt, Int32.le_iff_toInt_le, ← Int32.toInt_inj, Int32.toInt_add, Int32.toInt_sub, Int32.toInt_mul, Int32.toInt_neg, Int32.reduceToInt, g_bm, g_bm'] at *); omega) | (simp only [g_m1, Int32.lt_iff_toInt_lt, Int32.le_iff_toInt_le, ← Int32.toInt_inj, Int32.toInt_add, Int32.toInt_sub, Int32.toInt_mul, Int32.toInt_neg, Int32.reduceToInt, g_bm, g_bm'] at *; simp at *; omega) | (simp_all; done)
set_option maxRecDepth 100000 in
theorem g_X11_isWithin_v1 (x : Int32) (y : Int32) (z : Int32) (c2_1 : ¬ (x : Int32) < y) (c7_2 : z < (x : Int32)) : (0 = (1 : Int32) ∧ (y ≤ x ∧ x ≤ z)) ∨ (0 = (0 : Int32) ∧ ¬ (y ≤ x ∧ x ≤ z)) := by
  first | omega | ((try simp only [g_m1, Int32.lt_iff_toInt_lt, Int32.le_iff_toInt_le, ← Int32.toInt_inj, Int32.reduceToInt] at *); omega) | ((try simp only [g_m1, Int32.lt_iff_toInt_lt, Int32.le_iff_toInt_le, ← Int32.toInt_inj, Int32.reduceToInt] at *); omega) | ((try simp only [g_m1, Int32.lt_iff_toInt_lt, Int32.le_iff_toInt_le, ← Int32.toInt_inj, Int32.toInt_add, Int32.toInt_sub, Int32.toInt_mul, Int32.toInt_neg, Int32.reduceToInt, g_bm, g_bm'] at *); omega) | (have qr1 := g_rng x; have qr2 := g_rng y; have qr3 := g_rng z; (try simp only [g_m1, Int32.lt_iff_toInt_lt, Int32.le_iff_toInt_le, ← Int32.toInt_inj, Int32.toInt_add, Int32.toInt_sub, Int32.toInt_mul, Int32.toInt_neg, Int32.reduceToInt, g_bm, g_bm'] at *); omega) | (simp only [g_m1, Int32.lt_iff_toInt_lt, Int32.le_iff_toInt_le, ← Int32.toInt_inj, Int32.toInt_add, Int32.toInt_sub, Int32.toInt_mul, Int32.toInt_neg, Int32.reduceToInt, g_bm, g_bm'] at *; simp at *; omega) | (simp_all; done)
set_option maxRecDepth 100000 in
theorem g_X11_isWithin_v2 (x : Int32) (y : Int32) (z : Int32) (c2_1 : ¬ (x : Int32) < y) (c7_2 : ¬ z < (x : Int32)) : (1 = (1 : Int32) ∧ (y ≤ x ∧ x ≤ z)) ∨ (1 = (0 : Int32) ∧ ¬ (y ≤ x ∧ x ≤ z)) := by
  first | omega | ((try simp only [g_m1, Int32.lt_iff_toInt_lt, Int32.le_iff_toInt_le, ← Int32.toInt_inj, Int32.reduceToInt] at *); omega) | ((try simp only [g_m1, Int32.lt_iff_toInt_lt, Int32.le_iff_toInt_le, ← Int32.toInt_inj, Int32.reduceToInt] at *); omega) | ((try simp only [g_m1, Int32.lt_iff_toInt_lt, Int32.le_iff_toInt_le, ← Int32.toInt_inj, Int32.toInt_add, Int32.toInt_sub, Int32.toInt_mul, Int32.toInt_neg, Int32.reduceToInt, g_bm, g_bm'] at *); omega) | (have qr1 := g_rng x; have qr2 := g_rng y; have qr3 := g_rng z; (try simp only [g_m1, Int32.lt_iff_toInt_lt, Int32.le_iff_toInt_le, ← Int32.toInt_inj, Int32.toInt_add, Int32.toInt_sub, Int32.toInt_mul, Int32.toInt_neg, Int32.reduceToInt, g_bm, g_bm'] at *); omega) | (simp only [g_m1, Int32.lt_iff_toInt_lt, Int32.le_iff_toInt_le, ← Int32.toInt_inj, Int32.toInt_add, Int32.toInt_sub, Int32.toInt_mul, Int32.toInt_neg, Int32.reduceToInt, g_bm, g_bm'] at *; simp at *; omega) | (simp_all; done)
set_option maxHeartbeats 1000000 in
set_option maxRecDepth 100000 in
theorem g_X11_isWithin (l : Launch) (E : qE) (A : Nat → Prop) (u : qS) (x : Int32) (y : Int32) (z : Int32) : Met l yX11_isWithin (uws yX11_isWithin cX11_isWithin 3 (some .boolean)) (qR 0 0 0) (qPc E A 0 u [.int x, .int y, .int z]) (qQi E A 0 (fun r u1 => u1 = u ∧ ((r = 1 ∧ (y ≤ x ∧ x ≤ z)) ∨ (r = 0 ∧ ¬ (y ≤ x ∧ x ≤ z))))) 0 0 A := by
  refine q_met (own := RX11) (f := 0) [.int x, .int y, .int z] (by decide) (Nat.le_of_ble_eq_true rfl) rfl ?_
  intro p0 e0 s0 m0 bl0 me0 cd0 ls hF hr hlocks hU hS hA hl
  have hl : lv_has ls 3 [(0, .int x), (1, .int y), (2, .int z)] := hl
  refine lv_iload_n hF.1 hF.2.1 dX11_isWithin_0 rfl (lv_at hl 0 rfl) ?_
  refine lv_iload_n hF.1 hF.2.1 dX11_isWithin_1 rfl (lv_at hl 1 rfl) ?_
  refine lv_icmp_lt (tgt := 14) hF.1 hF.2.1 dX11_isWithin_2 (by decide) (fun c2_1 => ?_) (fun c2_1 => ?_)
  · refine lv_iconst (v := 0) hF.1 hF.2.1 dX11_isWithin_14 (by decide) ?_
    exact q_iret hF hr (by decide) hlocks hU hS dX11_isWithin_15 ⟨rfl, (g_X11_isWithin_v0 x y z c2_1)⟩
  · refine lv_iload_n hF.1 hF.2.1 dX11_isWithin_5 rfl (lv_at hl 0 rfl) ?_
    refine lv_iload_n hF.1 hF.2.1 dX11_isWithin_6 rfl (lv_at hl 2 rfl) ?_
    refine lv_icmp_gt (tgt := 14) hF.1 hF.2.1 dX11_isWithin_7 (by decide) (fun c7_2 => ?_) (fun c7_2 => ?_)
    · refine lv_iconst (v := 0) hF.1 hF.2.1 dX11_isWithin_14 (by decide) ?_
      exact q_iret hF hr (by decide) hlocks hU hS dX11_isWithin_15 ⟨rfl, (g_X11_isWithin_v1 x y z c2_1 c7_2)⟩
    · refine lv_iconst (v := 1) hF.1 hF.2.1 dX11_isWithin_10 (by decide) ?_
      refine lv_goto (tgt := 15) hF.1 hF.2.1 dX11_isWithin_11 (by decide) ?_
      exact q_iret hF hr (by decide) hlocks hU hS dX11_isWithin_15 ⟨rfl, (g_X11_isWithin_v2 x y z c2_1 c7_2)⟩
set_option maxRecDepth 100000 in
theorem g_X11_isDay_v0 (x : Int32) (b5_4 : (0 : Int32) ≤ x ∧ x ≤ (9999 : Int32)) : (1 = (1 : Int32) ∧ (0 ≤ x ∧ x ≤ 9999)) ∨ (1 = (0 : Int32) ∧ ¬ (0 ≤ x ∧ x ≤ 9999)) := by
  first | omega | ((try simp only [g_m1, Int32.lt_iff_toInt_lt, Int32.le_iff_toInt_le, ← Int32.toInt_inj, Int32.reduceToInt] at *); omega) | ((try simp only [g_m1, Int32.lt_iff_toInt_lt, Int32.le_iff_toInt_le, ← Int32.toInt_inj, Int32.reduceToInt] at *); omega) | ((try simp only [g_m1, Int32.lt_iff_toInt_lt, Int32.le_iff_toInt_le, ← Int32.toInt_inj, Int32.toInt_add, Int32.toInt_sub, Int32.toInt_mul, Int32.toInt_neg, Int32.reduceToInt, g_bm, g_bm'] at *); omega) | (have qr1 := g_rng x; (try simp only [g_m1, Int32.lt_iff_toInt_lt, Int32.le_iff_toInt_le, ← Int32.toInt_inj, Int32.toInt_add, Int32.toInt_sub, Int32.toInt_mul, Int32.toInt_neg, Int32.reduceToInt, g_bm, g_bm'] at *); omega) | (simp only [g_m1, Int32.lt_iff_toInt_lt, Int32.le_iff_toInt_le, ← Int32.toInt_inj, Int32.toInt_add, Int32.toInt_sub, Int32.toInt_mul, Int32.toInt_neg, Int32.reduceToInt, g_bm, g_bm'] at *; simp at *; omega) | (simp_all; done)
set_option maxRecDepth 100000 in
theorem g_X11_isDay_v1 (x : Int32) (b5_4 : ¬ ((0 : Int32) ≤ x ∧ x ≤ (9999 : Int32))) : (0 = (1 : Int32) ∧ (0 ≤ x ∧ x ≤ 9999)) ∨ (0 = (0 : Int32) ∧ ¬ (0 ≤ x ∧ x ≤ 9999)) := by
  first | omega | ((try simp only [g_m1, Int32.lt_iff_toInt_lt, Int32.le_iff_toInt_le, ← Int32.toInt_inj, Int32.reduceToInt] at *); omega) | ((try simp only [g_m1, Int32.lt_iff_toInt_lt, Int32.le_iff_toInt_le, ← Int32.toInt_inj, Int32.reduceToInt] at *); omega) | ((try simp only [g_m1, Int32.lt_iff_toInt_lt, Int32.le_iff_toInt_le, ← Int32.toInt_inj, Int32.toInt_add, Int32.toInt_sub, Int32.toInt_mul, Int32.toInt_neg, Int32.reduceToInt, g_bm, g_bm'] at *); omega) | (have qr1 := g_rng x; (try simp only [g_m1, Int32.lt_iff_toInt_lt, Int32.le_iff_toInt_le, ← Int32.toInt_inj, Int32.toInt_add, Int32.toInt_sub, Int32.toInt_mul, Int32.toInt_neg, Int32.reduceToInt, g_bm, g_bm'] at *); omega) | (simp only [g_m1, Int32.lt_iff_toInt_lt, Int32.le_iff_toInt_le, ← Int32.toInt_inj, Int32.toInt_add, Int32.toInt_sub, Int32.toInt_mul, Int32.toInt_neg, Int32.reduceToInt, g_bm, g_bm'] at *; simp at *; omega) | (simp_all; done)
set_option maxHeartbeats 1000000 in
set_option maxRecDepth 100000 in
theorem g_X11_isDay (l : Launch) (E : qE) (A : Nat → Prop) (u : qS) (x : Int32) : Met l yX11_isDay (uws yX11_isDay cX11_isDay 1 (some .boolean)) (qR 1 0 0) (qPc E A 0 u [.int x]) (qQi E A 0 (fun r u1 => u1 = u ∧ ((r = 1 ∧ (0 ≤ x ∧ x ≤ 9999)) ∨ (r = 0 ∧ ¬ (0 ≤ x ∧ x ≤ 9999))))) 0 0 A := by
  refine q_met (own := RX11) (f := 1) [.int x] (by decide) (Nat.le_of_ble_eq_true rfl) rfl ?_
  intro p0 e0 s0 m0 bl0 me0 cd0 ls hF hr hlocks hU hS hA hl
  have hl : lv_has ls 1 [(0, .int x)] := hl
  refine lv_iload_n hF.1 hF.2.1 dX11_isDay_0 rfl (lv_at hl 0 rfl) ?_
  refine lv_iconst (v := 0) hF.1 hF.2.1 dX11_isDay_1 (by decide) ?_
  refine lv_sipush (v := 9999) hF.1 hF.2.1 dX11_isDay_2 (by decide) ?_
  have hM9 := g_X11_isWithin l E A u x 0 9999
  have hR9 := q_runS (l := l) (e := e0) (below := bl0) (meth := me0) (R := qR 1 0 0) (cells := 0) (slots := 0) (st0 := [.int 9999, .int 0, .int x]) (rest := []) hF hU hS hA 3 hM9 w_468 w_469 w_99 w_470 (by decide +kernel) ⟨Nat.le_of_ble_eq_true rfl, Nat.le_of_ble_eq_true rfl⟩ dX11_isDay_5 rfl hl.1 rfl (Nat.le_of_ble_eq_true rfl) ⟨Nat.le_of_ble_eq_true rfl, Nat.le_of_ble_eq_true rfl⟩
  refine q_calli hR9 hU.2.2.2 hS (fun r_3 u_1 H locs hw_2 hU hS => ?_)
  obtain ⟨hw_2_e, hw_2⟩ := hw_2
  rw [hw_2_e] at hU
  have hw_2 : (r_3 = 1 ∧ ((0 : Int32) ≤ x ∧ x ≤ (9999 : Int32))) ∨ (r_3 = 0 ∧ (¬ ((0 : Int32) ≤ x ∧ x ≤ (9999 : Int32)))) := hw_2
  rcases hw_2 with ⟨rfl, b5_4⟩ | ⟨rfl, b5_4⟩
  · exact q_iret hF hr (by decide) hlocks hU hS dX11_isDay_8 ⟨rfl, (g_X11_isDay_v0 x b5_4)⟩
  · exact q_iret hF hr (by decide) hlocks hU hS dX11_isDay_8 ⟨rfl, (g_X11_isDay_v1 x b5_4)⟩
set_option maxRecDepth 100000 in
theorem g_X11_isSpan_v0 (x : Int32) (y : Int32) (b1_4 : 0 ≤ x ∧ x ≤ 9999) (b8_8 : 0 ≤ y ∧ y ≤ 9999) (c16_9 : y < (x : Int32)) : (0 = (1 : Int32) ∧ ((0 ≤ x ∧ x ≤ 9999) ∧ (0 ≤ y ∧ y ≤ 9999) ∧ x ≤ y)) ∨ (0 = (0 : Int32) ∧ ¬ ((0 ≤ x ∧ x ≤ 9999) ∧ (0 ≤ y ∧ y ≤ 9999) ∧ x ≤ y)) := by
  first | omega | ((try simp only [g_m1, Int32.lt_iff_toInt_lt, Int32.le_iff_toInt_le, ← Int32.toInt_inj, Int32.reduceToInt] at *); omega) | ((try simp only [g_m1, Int32.lt_iff_toInt_lt, Int32.le_iff_toInt_le, ← Int32.toInt_inj, Int32.reduceToInt] at *); omega) | ((try simp only [g_m1, Int32.lt_iff_toInt_lt, Int32.le_iff_toInt_le, ← Int32.toInt_inj, Int32.toInt_add, Int32.toInt_sub, Int32.toInt_mul, Int32.toInt_neg, Int32.reduceToInt, g_bm, g_bm'] at *); omega) | (have qr1 := g_rng x; have qr2 := g_rng y; (try simp only [g_m1, Int32.lt_iff_toInt_lt, Int32.le_iff_toInt_le, ← Int32.toInt_inj, Int32.toInt_add, Int32.toInt_sub, Int32.toInt_mul, Int32.toInt_neg, Int32.reduceToInt, g_bm, g_bm'] at *); omega) | (simp only [g_m1, Int32.lt_iff_toInt_lt, Int32.le_iff_toInt_le, ← Int32.toInt_inj, Int32.toInt_add, Int32.toInt_sub, Int32.toInt_mul, Int32.toInt_neg, Int32.reduceToInt, g_bm, g_bm'] at *; simp at *; omega) | (simp_all; done)
set_option maxRecDepth 100000 in
theorem g_X11_isSpan_v1 (x : Int32) (y : Int32) (b1_4 : 0 ≤ x ∧ x ≤ 9999) (b8_8 : 0 ≤ y ∧ y ≤ 9999) (c16_9 : ¬ y < (x : Int32)) : (1 = (1 : Int32) ∧ ((0 ≤ x ∧ x ≤ 9999) ∧ (0 ≤ y ∧ y ≤ 9999) ∧ x ≤ y)) ∨ (1 = (0 : Int32) ∧ ¬ ((0 ≤ x ∧ x ≤ 9999) ∧ (0 ≤ y ∧ y ≤ 9999) ∧ x ≤ y)) := by
  first | omega | ((try simp only [g_m1, Int32.lt_iff_toInt_lt, Int32.le_iff_toInt_le, ← Int32.toInt_inj, Int32.reduceToInt] at *); omega) | ((try simp only [g_m1, Int32.lt_iff_toInt_lt, Int32.le_iff_toInt_le, ← Int32.toInt_inj, Int32.reduceToInt] at *); omega) | ((try simp only [g_m1, Int32.lt_iff_toInt_lt, Int32.le_iff_toInt_le, ← Int32.toInt_inj, Int32.toInt_add, Int32.toInt_sub, Int32.toInt_mul, Int32.toInt_neg, Int32.reduceToInt, g_bm, g_bm'] at *); omega) | (have qr1 := g_rng x; have qr2 := g_rng y; (try simp only [g_m1, Int32.lt_iff_toInt_lt, Int32.le_iff_toInt_le, ← Int32.toInt_inj, Int32.toInt_add, Int32.toInt_sub, Int32.toInt_mul, Int32.toInt_neg, Int32.reduceToInt, g_bm, g_bm'] at *); omega) | (simp only [g_m1, Int32.lt_iff_toInt_lt, Int32.le_iff_toInt_le, ← Int32.toInt_inj, Int32.toInt_add, Int32.toInt_sub, Int32.toInt_mul, Int32.toInt_neg, Int32.reduceToInt, g_bm, g_bm'] at *; simp at *; omega) | (simp_all; done)
set_option maxRecDepth 100000 in
theorem g_X11_isSpan_v2 (x : Int32) (y : Int32) (b1_4 : 0 ≤ x ∧ x ≤ 9999) (b8_8 : ¬ (0 ≤ y ∧ y ≤ 9999)) : (0 = (1 : Int32) ∧ ((0 ≤ x ∧ x ≤ 9999) ∧ (0 ≤ y ∧ y ≤ 9999) ∧ x ≤ y)) ∨ (0 = (0 : Int32) ∧ ¬ ((0 ≤ x ∧ x ≤ 9999) ∧ (0 ≤ y ∧ y ≤ 9999) ∧ x ≤ y)) := by
  first | omega | ((try simp only [g_m1, Int32.lt_iff_toInt_lt, Int32.le_iff_toInt_le, ← Int32.toInt_inj, Int32.reduceToInt] at *); omega) | ((try simp only [g_m1, Int32.lt_iff_toInt_lt, Int32.le_iff_toInt_le, ← Int32.toInt_inj, Int32.reduceToInt] at *); omega) | ((try simp only [g_m1, Int32.lt_iff_toInt_lt, Int32.le_iff_toInt_le, ← Int32.toInt_inj, Int32.toInt_add, Int32.toInt_sub, Int32.toInt_mul, Int32.toInt_neg, Int32.reduceToInt, g_bm, g_bm'] at *); omega) | (have qr1 := g_rng x; have qr2 := g_rng y; (try simp only [g_m1, Int32.lt_iff_toInt_lt, Int32.le_iff_toInt_le, ← Int32.toInt_inj, Int32.toInt_add, Int32.toInt_sub, Int32.toInt_mul, Int32.toInt_neg, Int32.reduceToInt, g_bm, g_bm'] at *); omega) | (simp only [g_m1, Int32.lt_iff_toInt_lt, Int32.le_iff_toInt_le, ← Int32.toInt_inj, Int32.toInt_add, Int32.toInt_sub, Int32.toInt_mul, Int32.toInt_neg, Int32.reduceToInt, g_bm, g_bm'] at *; simp at *; omega) | (simp_all; done)
set_option maxRecDepth 100000 in
theorem g_X11_isSpan_v3 (x : Int32) (y : Int32) (b1_4 : ¬ (0 ≤ x ∧ x ≤ 9999)) : (0 = (1 : Int32) ∧ ((0 ≤ x ∧ x ≤ 9999) ∧ (0 ≤ y ∧ y ≤ 9999) ∧ x ≤ y)) ∨ (0 = (0 : Int32) ∧ ¬ ((0 ≤ x ∧ x ≤ 9999) ∧ (0 ≤ y ∧ y ≤ 9999) ∧ x ≤ y)) := by
  first | omega | ((try simp only [g_m1, Int32.lt_iff_toInt_lt, Int32.le_iff_toInt_le, ← Int32.toInt_inj, Int32.reduceToInt] at *); omega) | ((try simp only [g_m1, Int32.lt_iff_toInt_lt, Int32.le_iff_toInt_le, ← Int32.toInt_inj, Int32.reduceToInt] at *); omega) | ((try simp only [g_m1, Int32.lt_iff_toInt_lt, Int32.le_iff_toInt_le, ← Int32.toInt_inj, Int32.toInt_add, Int32.toInt_sub, Int32.toInt_mul, Int32.toInt_neg, Int32.reduceToInt, g_bm, g_bm'] at *); omega) | (have qr1 := g_rng x; have qr2 := g_rng y; (try simp only [g_m1, Int32.lt_iff_toInt_lt, Int32.le_iff_toInt_le, ← Int32.toInt_inj, Int32.toInt_add, Int32.toInt_sub, Int32.toInt_mul, Int32.toInt_neg, Int32.reduceToInt, g_bm, g_bm'] at *); omega) | (simp only [g_m1, Int32.lt_iff_toInt_lt, Int32.le_iff_toInt_le, ← Int32.toInt_inj, Int32.toInt_add, Int32.toInt_sub, Int32.toInt_mul, Int32.toInt_neg, Int32.reduceToInt, g_bm, g_bm'] at *; simp at *; omega) | (simp_all; done)
set_option maxHeartbeats 1000000 in
set_option maxRecDepth 100000 in
theorem g_X11_isSpan (l : Launch) (E : qE) (A : Nat → Prop) (u : qS) (x : Int32) (y : Int32) : Met l yX11_isSpan (uws yX11_isSpan cX11_isSpan 2 (some .boolean)) (qR 2 0 0) (qPc E A 0 u [.int x, .int y]) (qQi E A 0 (fun r u1 => u1 = u ∧ ((r = 1 ∧ ((0 ≤ x ∧ x ≤ 9999) ∧ (0 ≤ y ∧ y ≤ 9999) ∧ x ≤ y)) ∨ (r = 0 ∧ ¬ ((0 ≤ x ∧ x ≤ 9999) ∧ (0 ≤ y ∧ y ≤ 9999) ∧ x ≤ y))))) 0 0 A := by
  refine q_met (own := RX11) (f := 2) [.int x, .int y] (by decide) (Nat.le_of_ble_eq_true rfl) rfl ?_
  intro p0 e0 s0 m0 bl0 me0 cd0 ls hF hr hlocks hU hS hA hl
  have hl : lv_has ls 2 [(0, .int x), (1, .int y)] := hl
  refine lv_iload_n hF.1 hF.2.1 dX11_isSpan_0 rfl (lv_at hl 0 rfl) ?_
  have hM9 := g_X11_isDay l E A u x
  have hR9 := q_runS (l := l) (e := e0) (below := bl0) (meth := me0) (R := qR 2 0 0) (cells := 0) (slots := 0) (st0 := [.int x]) (rest := []) hF hU hS hA 1 hM9 w_699 w_700 w_99 w_701 (by decide +kernel) ⟨Nat.le_of_ble_eq_true rfl, Nat.le_of_ble_eq_true rfl⟩ dX11_isSpan_1 rfl hl.1 rfl (Nat.le_of_ble_eq_true rfl) ⟨Nat.le_of_ble_eq_true rfl, Nat.le_of_ble_eq_true rfl⟩
  refine q_calli hR9 hU.2.2.2 hS (fun r_3 u_1 H locs hw_2 hU hS => ?_)
  obtain ⟨hw_2_e, hw_2⟩ := hw_2
  rw [hw_2_e] at hU
  have hw_2 : (r_3 = 1 ∧ (0 ≤ x ∧ x ≤ 9999)) ∨ (r_3 = 0 ∧ (¬ (0 ≤ x ∧ x ≤ 9999))) := hw_2
  rcases hw_2 with ⟨rfl, b1_4⟩ | ⟨rfl, b1_4⟩
  · refine lv_if_eq (tgt := 23) hF.1 hF.2.1 dX11_isSpan_4 (by decide) (fun h9 => absurd h9 (by decide)) (fun _ => ?_)
    refine lv_iload_n hF.1 hF.2.1 dX11_isSpan_7 rfl (lv_at hl 1 rfl) ?_
    have hM9 := g_X11_isDay l E A u y
    have hR9 := q_runS (l := l) (e := e0) (below := bl0) (meth := me0) (R := qR 2 0 0) (cells := 0) (slots := 0) (st0 := [.int y]) (rest := []) hF hU hS hA 1 hM9 w_699 w_700 w_99 w_701 (by decide +kernel) ⟨Nat.le_of_ble_eq_true rfl, Nat.le_of_ble_eq_true rfl⟩ dX11_isSpan_8 rfl hl.1 rfl (Nat.le_of_ble_eq_true rfl) ⟨Nat.le_of_ble_eq_true rfl, Nat.le_of_ble_eq_true rfl⟩
    refine q_calli hR9 hU.2.2.2 hS (fun r_7 u_5 H locs hw_6 hU hS => ?_)
    obtain ⟨hw_6_e, hw_6⟩ := hw_6
    rw [hw_6_e] at hU
    have hw_6 : (r_7 = 1 ∧ (0 ≤ y ∧ y ≤ 9999)) ∨ (r_7 = 0 ∧ (¬ (0 ≤ y ∧ y ≤ 9999))) := hw_6
    rcases hw_6 with ⟨rfl, b8_8⟩ | ⟨rfl, b8_8⟩
    · refine lv_if_eq (tgt := 23) hF.1 hF.2.1 dX11_isSpan_11 (by decide) (fun h9 => absurd h9 (by decide)) (fun _ => ?_)
      refine lv_iload_n hF.1 hF.2.1 dX11_isSpan_14 rfl (lv_at hl 0 rfl) ?_
      refine lv_iload_n hF.1 hF.2.1 dX11_isSpan_15 rfl (lv_at hl 1 rfl) ?_
      refine lv_icmp_gt (tgt := 23) hF.1 hF.2.1 dX11_isSpan_16 (by decide) (fun c16_9 => ?_) (fun c16_9 => ?_)
      · refine lv_iconst (v := 0) hF.1 hF.2.1 dX11_isSpan_23 (by decide) ?_
        exact q_iret hF hr (by decide) hlocks hU hS dX11_isSpan_24 ⟨rfl, (g_X11_isSpan_v0 x y b1_4 b8_8 c16_9)⟩
      · refine lv_iconst (v := 1) hF.1 hF.2.1 dX11_isSpan_19 (by decide) ?_
        refine lv_goto (tgt := 24) hF.1 hF.2.1 dX11_isSpan_20 (by decide) ?_
        exact q_iret hF hr (by decide) hlocks hU hS dX11_isSpan_24 ⟨rfl, (g_X11_isSpan_v1 x y b1_4 b8_8 c16_9)⟩
    · refine lv_if_eq (tgt := 23) hF.1 hF.2.1 dX11_isSpan_11 (by decide) (fun _ => ?_) (fun h9 => absurd (by decide) h9)
      refine lv_iconst (v := 0) hF.1 hF.2.1 dX11_isSpan_23 (by decide) ?_
      exact q_iret hF hr (by decide) hlocks hU hS dX11_isSpan_24 ⟨rfl, (g_X11_isSpan_v2 x y b1_4 b8_8)⟩
  · refine lv_if_eq (tgt := 23) hF.1 hF.2.1 dX11_isSpan_4 (by decide) (fun _ => ?_) (fun h9 => absurd (by decide) h9)
    refine lv_iconst (v := 0) hF.1 hF.2.1 dX11_isSpan_23 (by decide) ?_
    exact q_iret hF hr (by decide) hlocks hU hS dX11_isSpan_24 ⟨rfl, (g_X11_isSpan_v3 x y b1_4)⟩
set_option maxRecDepth 100000 in
theorem g_X11_isMinute_v0 (x : Int32) (b5_4 : (0 : Int32) ≤ x ∧ x ≤ (1439 : Int32)) : (1 = (1 : Int32) ∧ (0 ≤ x ∧ x ≤ 1439)) ∨ (1 = (0 : Int32) ∧ ¬ (0 ≤ x ∧ x ≤ 1439)) := by
  first | omega | ((try simp only [g_m1, Int32.lt_iff_toInt_lt, Int32.le_iff_toInt_le, ← Int32.toInt_inj, Int32.reduceToInt] at *); omega) | ((try simp only [g_m1, Int32.lt_iff_toInt_lt, Int32.le_iff_toInt_le, ← Int32.toInt_inj, Int32.reduceToInt] at *); omega) | ((try simp only [g_m1, Int32.lt_iff_toInt_lt, Int32.le_iff_toInt_le, ← Int32.toInt_inj, Int32.toInt_add, Int32.toInt_sub, Int32.toInt_mul, Int32.toInt_neg, Int32.reduceToInt, g_bm, g_bm'] at *); omega) | (have qr1 := g_rng x; (try simp only [g_m1, Int32.lt_iff_toInt_lt, Int32.le_iff_toInt_le, ← Int32.toInt_inj, Int32.toInt_add, Int32.toInt_sub, Int32.toInt_mul, Int32.toInt_neg, Int32.reduceToInt, g_bm, g_bm'] at *); omega) | (simp only [g_m1, Int32.lt_iff_toInt_lt, Int32.le_iff_toInt_le, ← Int32.toInt_inj, Int32.toInt_add, Int32.toInt_sub, Int32.toInt_mul, Int32.toInt_neg, Int32.reduceToInt, g_bm, g_bm'] at *; simp at *; omega) | (simp_all; done)
set_option maxRecDepth 100000 in
theorem g_X11_isMinute_v1 (x : Int32) (b5_4 : ¬ ((0 : Int32) ≤ x ∧ x ≤ (1439 : Int32))) : (0 = (1 : Int32) ∧ (0 ≤ x ∧ x ≤ 1439)) ∨ (0 = (0 : Int32) ∧ ¬ (0 ≤ x ∧ x ≤ 1439)) := by
  first | omega | ((try simp only [g_m1, Int32.lt_iff_toInt_lt, Int32.le_iff_toInt_le, ← Int32.toInt_inj, Int32.reduceToInt] at *); omega) | ((try simp only [g_m1, Int32.lt_iff_toInt_lt, Int32.le_iff_toInt_le, ← Int32.toInt_inj, Int32.reduceToInt] at *); omega) | ((try simp only [g_m1, Int32.lt_iff_toInt_lt, Int32.le_iff_toInt_le, ← Int32.toInt_inj, Int32.toInt_add, Int32.toInt_sub, Int32.toInt_mul, Int32.toInt_neg, Int32.reduceToInt, g_bm, g_bm'] at *); omega) | (have qr1 := g_rng x; (try simp only [g_m1, Int32.lt_iff_toInt_lt, Int32.le_iff_toInt_le, ← Int32.toInt_inj, Int32.toInt_add, Int32.toInt_sub, Int32.toInt_mul, Int32.toInt_neg, Int32.reduceToInt, g_bm, g_bm'] at *); omega) | (simp only [g_m1, Int32.lt_iff_toInt_lt, Int32.le_iff_toInt_le, ← Int32.toInt_inj, Int32.toInt_add, Int32.toInt_sub, Int32.toInt_mul, Int32.toInt_neg, Int32.reduceToInt, g_bm, g_bm'] at *; simp at *; omega) | (simp_all; done)
set_option maxHeartbeats 1000000 in
set_option maxRecDepth 100000 in
theorem g_X11_isMinute (l : Launch) (E : qE) (A : Nat → Prop) (u : qS) (x : Int32) : Met l yX11_isMinute (uws yX11_isMinute cX11_isMinute 1 (some .boolean)) (qR 1 0 0) (qPc E A 0 u [.int x]) (qQi E A 0 (fun r u1 => u1 = u ∧ ((r = 1 ∧ (0 ≤ x ∧ x ≤ 1439)) ∨ (r = 0 ∧ ¬ (0 ≤ x ∧ x ≤ 1439))))) 0 0 A := by
  refine q_met (own := RX11) (f := 1) [.int x] (by decide) (Nat.le_of_ble_eq_true rfl) rfl ?_
  intro p0 e0 s0 m0 bl0 me0 cd0 ls hF hr hlocks hU hS hA hl
  have hl : lv_has ls 1 [(0, .int x)] := hl
  refine lv_iload_n hF.1 hF.2.1 dX11_isMinute_0 rfl (lv_at hl 0 rfl) ?_
  refine lv_iconst (v := 0) hF.1 hF.2.1 dX11_isMinute_1 (by decide) ?_
  refine lv_sipush (v := 1439) hF.1 hF.2.1 dX11_isMinute_2 (by decide) ?_
  have hM9 := g_X11_isWithin l E A u x 0 1439
  have hR9 := q_runS (l := l) (e := e0) (below := bl0) (meth := me0) (R := qR 1 0 0) (cells := 0) (slots := 0) (st0 := [.int 1439, .int 0, .int x]) (rest := []) hF hU hS hA 3 hM9 w_468 w_469 w_99 w_470 (by decide +kernel) ⟨Nat.le_of_ble_eq_true rfl, Nat.le_of_ble_eq_true rfl⟩ dX11_isMinute_5 rfl hl.1 rfl (Nat.le_of_ble_eq_true rfl) ⟨Nat.le_of_ble_eq_true rfl, Nat.le_of_ble_eq_true rfl⟩
  refine q_calli hR9 hU.2.2.2 hS (fun r_3 u_1 H locs hw_2 hU hS => ?_)
  obtain ⟨hw_2_e, hw_2⟩ := hw_2
  rw [hw_2_e] at hU
  have hw_2 : (r_3 = 1 ∧ ((0 : Int32) ≤ x ∧ x ≤ (1439 : Int32))) ∨ (r_3 = 0 ∧ (¬ ((0 : Int32) ≤ x ∧ x ≤ (1439 : Int32)))) := hw_2
  rcases hw_2 with ⟨rfl, b5_4⟩ | ⟨rfl, b5_4⟩
  · exact q_iret hF hr (by decide) hlocks hU hS dX11_isMinute_8 ⟨rfl, (g_X11_isMinute_v0 x b5_4)⟩
  · exact q_iret hF hr (by decide) hlocks hU hS dX11_isMinute_8 ⟨rfl, (g_X11_isMinute_v1 x b5_4)⟩
set_option maxRecDepth 100000 in
theorem g_X11_isPlace_v0 (x : Int32) (y : Int32) (b4_4 : (0 : Int32) ≤ x ∧ x ≤ (99 : Int32)) (b14_8 : (0 : Int32) ≤ y ∧ y ≤ (99 : Int32)) : (1 = (1 : Int32) ∧ ((0 ≤ x ∧ x ≤ 99) ∧ (0 ≤ y ∧ y ≤ 99))) ∨ (1 = (0 : Int32) ∧ ¬ ((0 ≤ x ∧ x ≤ 99) ∧ (0 ≤ y ∧ y ≤ 99))) := by
  first | omega | ((try simp only [g_m1, Int32.lt_iff_toInt_lt, Int32.le_iff_toInt_le, ← Int32.toInt_inj, Int32.reduceToInt] at *); omega) | ((try simp only [g_m1, Int32.lt_iff_toInt_lt, Int32.le_iff_toInt_le, ← Int32.toInt_inj, Int32.reduceToInt] at *); omega) | ((try simp only [g_m1, Int32.lt_iff_toInt_lt, Int32.le_iff_toInt_le, ← Int32.toInt_inj, Int32.toInt_add, Int32.toInt_sub, Int32.toInt_mul, Int32.toInt_neg, Int32.reduceToInt, g_bm, g_bm'] at *); omega) | (have qr1 := g_rng x; have qr2 := g_rng y; (try simp only [g_m1, Int32.lt_iff_toInt_lt, Int32.le_iff_toInt_le, ← Int32.toInt_inj, Int32.toInt_add, Int32.toInt_sub, Int32.toInt_mul, Int32.toInt_neg, Int32.reduceToInt, g_bm, g_bm'] at *); omega) | (simp only [g_m1, Int32.lt_iff_toInt_lt, Int32.le_iff_toInt_le, ← Int32.toInt_inj, Int32.toInt_add, Int32.toInt_sub, Int32.toInt_mul, Int32.toInt_neg, Int32.reduceToInt, g_bm, g_bm'] at *; simp at *; omega) | (simp_all; done)
set_option maxRecDepth 100000 in
theorem g_X11_isPlace_v1 (x : Int32) (y : Int32) (b4_4 : (0 : Int32) ≤ x ∧ x ≤ (99 : Int32)) (b14_8 : ¬ ((0 : Int32) ≤ y ∧ y ≤ (99 : Int32))) : (0 = (1 : Int32) ∧ ((0 ≤ x ∧ x ≤ 99) ∧ (0 ≤ y ∧ y ≤ 99))) ∨ (0 = (0 : Int32) ∧ ¬ ((0 ≤ x ∧ x ≤ 99) ∧ (0 ≤ y ∧ y ≤ 99))) := by
  first | omega | ((try simp only [g_m1, Int32.lt_iff_toInt_lt, Int32.le_iff_toInt_le, ← Int32.toInt_inj, Int32.reduceToInt] at *); omega) | ((try simp only [g_m1, Int32.lt_iff_toInt_lt, Int32.le_iff_toInt_le, ← Int32.toInt_inj, Int32.reduceToInt] at *); omega) | ((try simp only [g_m1, Int32.lt_iff_toInt_lt, Int32.le_iff_toInt_le, ← Int32.toInt_inj, Int32.toInt_add, Int32.toInt_sub, Int32.toInt_mul, Int32.toInt_neg, Int32.reduceToInt, g_bm, g_bm'] at *); omega) | (have qr1 := g_rng x; have qr2 := g_rng y; (try simp only [g_m1, Int32.lt_iff_toInt_lt, Int32.le_iff_toInt_le, ← Int32.toInt_inj, Int32.toInt_add, Int32.toInt_sub, Int32.toInt_mul, Int32.toInt_neg, Int32.reduceToInt, g_bm, g_bm'] at *); omega) | (simp only [g_m1, Int32.lt_iff_toInt_lt, Int32.le_iff_toInt_le, ← Int32.toInt_inj, Int32.toInt_add, Int32.toInt_sub, Int32.toInt_mul, Int32.toInt_neg, Int32.reduceToInt, g_bm, g_bm'] at *; simp at *; omega) | (simp_all; done)
set_option maxRecDepth 100000 in
theorem g_X11_isPlace_v2 (x : Int32) (y : Int32) (b4_4 : ¬ ((0 : Int32) ≤ x ∧ x ≤ (99 : Int32))) : (0 = (1 : Int32) ∧ ((0 ≤ x ∧ x ≤ 99) ∧ (0 ≤ y ∧ y ≤ 99))) ∨ (0 = (0 : Int32) ∧ ¬ ((0 ≤ x ∧ x ≤ 99) ∧ (0 ≤ y ∧ y ≤ 99))) := by
  first | omega | ((try simp only [g_m1, Int32.lt_iff_toInt_lt, Int32.le_iff_toInt_le, ← Int32.toInt_inj, Int32.reduceToInt] at *); omega) | ((try simp only [g_m1, Int32.lt_iff_toInt_lt, Int32.le_iff_toInt_le, ← Int32.toInt_inj, Int32.reduceToInt] at *); omega) | ((try simp only [g_m1, Int32.lt_iff_toInt_lt, Int32.le_iff_toInt_le, ← Int32.toInt_inj, Int32.toInt_add, Int32.toInt_sub, Int32.toInt_mul, Int32.toInt_neg, Int32.reduceToInt, g_bm, g_bm'] at *); omega) | (have qr1 := g_rng x; have qr2 := g_rng y; (try simp only [g_m1, Int32.lt_iff_toInt_lt, Int32.le_iff_toInt_le, ← Int32.toInt_inj, Int32.toInt_add, Int32.toInt_sub, Int32.toInt_mul, Int32.toInt_neg, Int32.reduceToInt, g_bm, g_bm'] at *); omega) | (simp only [g_m1, Int32.lt_iff_toInt_lt, Int32.le_iff_toInt_le, ← Int32.toInt_inj, Int32.toInt_add, Int32.toInt_sub, Int32.toInt_mul, Int32.toInt_neg, Int32.reduceToInt, g_bm, g_bm'] at *; simp at *; omega) | (simp_all; done)
set_option maxHeartbeats 1000000 in
set_option maxRecDepth 100000 in
theorem g_X11_isPlace (l : Launch) (E : qE) (A : Nat → Prop) (u : qS) (x : Int32) (y : Int32) : Met l yX11_isPlace (uws yX11_isPlace cX11_isPlace 2 (some .boolean)) (qR 1 0 0) (qPc E A 0 u [.int x, .int y]) (qQi E A 0 (fun r u1 => u1 = u ∧ ((r = 1 ∧ ((0 ≤ x ∧ x ≤ 99) ∧ (0 ≤ y ∧ y ≤ 99))) ∨ (r = 0 ∧ ¬ ((0 ≤ x ∧ x ≤ 99) ∧ (0 ≤ y ∧ y ≤ 99)))))) 0 0 A := by
  refine q_met (own := RX11) (f := 1) [.int x, .int y] (by decide) (Nat.le_of_ble_eq_true rfl) rfl ?_
  intro p0 e0 s0 m0 bl0 me0 cd0 ls hF hr hlocks hU hS hA hl
  have hl : lv_has ls 2 [(0, .int x), (1, .int y)] := hl
  refine lv_iload_n hF.1 hF.2.1 dX11_isPlace_0 rfl (lv_at hl 0 rfl) ?_
  refine lv_iconst (v := 0) hF.1 hF.2.1 dX11_isPlace_1 (by decide) ?_
  refine lv_bipush (v := 99) hF.1 hF.2.1 dX11_isPlace_2 (by decide) ?_
  have hM9 := g_X11_isWithin l E A u x 0 99
  have hR9 := q_runS (l := l) (e := e0) (below := bl0) (meth := me0) (R := qR 1 0 0) (cells := 0) (slots := 0) (st0 := [.int 99, .int 0, .int x]) (rest := []) hF hU hS hA 3 hM9 w_468 w_469 w_99 w_470 (by decide +kernel) ⟨Nat.le_of_ble_eq_true rfl, Nat.le_of_ble_eq_true rfl⟩ dX11_isPlace_4 rfl hl.1 rfl (Nat.le_of_ble_eq_true rfl) ⟨Nat.le_of_ble_eq_true rfl, Nat.le_of_ble_eq_true rfl⟩
  refine q_calli hR9 hU.2.2.2 hS (fun r_3 u_1 H locs hw_2 hU hS => ?_)
  obtain ⟨hw_2_e, hw_2⟩ := hw_2
  rw [hw_2_e] at hU
  have hw_2 : (r_3 = 1 ∧ ((0 : Int32) ≤ x ∧ x ≤ (99 : Int32))) ∨ (r_3 = 0 ∧ (¬ ((0 : Int32) ≤ x ∧ x ≤ (99 : Int32)))) := hw_2
  rcases hw_2 with ⟨rfl, b4_4⟩ | ⟨rfl, b4_4⟩
  · refine lv_if_eq (tgt := 24) hF.1 hF.2.1 dX11_isPlace_7 (by decide) (fun h9 => absurd h9 (by decide)) (fun _ => ?_)
    refine lv_iload_n hF.1 hF.2.1 dX11_isPlace_10 rfl (lv_at hl 1 rfl) ?_
    refine lv_iconst (v := 0) hF.1 hF.2.1 dX11_isPlace_11 (by decide) ?_
    refine lv_bipush (v := 99) hF.1 hF.2.1 dX11_isPlace_12 (by decide) ?_
    have hM9 := g_X11_isWithin l E A u y 0 99
    have hR9 := q_runS (l := l) (e := e0) (below := bl0) (meth := me0) (R := qR 1 0 0) (cells := 0) (slots := 0) (st0 := [.int 99, .int 0, .int y]) (rest := []) hF hU hS hA 3 hM9 w_468 w_469 w_99 w_470 (by decide +kernel) ⟨Nat.le_of_ble_eq_true rfl, Nat.le_of_ble_eq_true rfl⟩ dX11_isPlace_14 rfl hl.1 rfl (Nat.le_of_ble_eq_true rfl) ⟨Nat.le_of_ble_eq_true rfl, Nat.le_of_ble_eq_true rfl⟩
    refine q_calli hR9 hU.2.2.2 hS (fun r_7 u_5 H locs hw_6 hU hS => ?_)
    obtain ⟨hw_6_e, hw_6⟩ := hw_6
    rw [hw_6_e] at hU
    have hw_6 : (r_7 = 1 ∧ ((0 : Int32) ≤ y ∧ y ≤ (99 : Int32))) ∨ (r_7 = 0 ∧ (¬ ((0 : Int32) ≤ y ∧ y ≤ (99 : Int32)))) := hw_6
    rcases hw_6 with ⟨rfl, b14_8⟩ | ⟨rfl, b14_8⟩
    · refine lv_if_eq (tgt := 24) hF.1 hF.2.1 dX11_isPlace_17 (by decide) (fun h9 => absurd h9 (by decide)) (fun _ => ?_)
      refine lv_iconst (v := 1) hF.1 hF.2.1 dX11_isPlace_20 (by decide) ?_
      refine lv_goto (tgt := 25) hF.1 hF.2.1 dX11_isPlace_21 (by decide) ?_
      exact q_iret hF hr (by decide) hlocks hU hS dX11_isPlace_25 ⟨rfl, (g_X11_isPlace_v0 x y b4_4 b14_8)⟩
    · refine lv_if_eq (tgt := 24) hF.1 hF.2.1 dX11_isPlace_17 (by decide) (fun _ => ?_) (fun h9 => absurd (by decide) h9)
      refine lv_iconst (v := 0) hF.1 hF.2.1 dX11_isPlace_24 (by decide) ?_
      exact q_iret hF hr (by decide) hlocks hU hS dX11_isPlace_25 ⟨rfl, (g_X11_isPlace_v1 x y b4_4 b14_8)⟩
  · refine lv_if_eq (tgt := 24) hF.1 hF.2.1 dX11_isPlace_7 (by decide) (fun _ => ?_) (fun h9 => absurd (by decide) h9)
    refine lv_iconst (v := 0) hF.1 hF.2.1 dX11_isPlace_24 (by decide) ?_
    exact q_iret hF hr (by decide) hlocks hU hS dX11_isPlace_25 ⟨rfl, (g_X11_isPlace_v2 x y b4_4)⟩
set_option maxRecDepth 100000 in
theorem g_X11_isChain_v0 (x : Int32) (b3_4 : (0 : Int32) ≤ x ∧ x ≤ (3 : Int32)) : (1 = (1 : Int32) ∧ (0 ≤ x ∧ x ≤ 3)) ∨ (1 = (0 : Int32) ∧ ¬ (0 ≤ x ∧ x ≤ 3)) := by
  first | omega | ((try simp only [g_m1, Int32.lt_iff_toInt_lt, Int32.le_iff_toInt_le, ← Int32.toInt_inj, Int32.reduceToInt] at *); omega) | ((try simp only [g_m1, Int32.lt_iff_toInt_lt, Int32.le_iff_toInt_le, ← Int32.toInt_inj, Int32.reduceToInt] at *); omega) | ((try simp only [g_m1, Int32.lt_iff_toInt_lt, Int32.le_iff_toInt_le, ← Int32.toInt_inj, Int32.toInt_add, Int32.toInt_sub, Int32.toInt_mul, Int32.toInt_neg, Int32.reduceToInt, g_bm, g_bm'] at *); omega) | (have qr1 := g_rng x; (try simp only [g_m1, Int32.lt_iff_toInt_lt, Int32.le_iff_toInt_le, ← Int32.toInt_inj, Int32.toInt_add, Int32.toInt_sub, Int32.toInt_mul, Int32.toInt_neg, Int32.reduceToInt, g_bm, g_bm'] at *); omega) | (simp only [g_m1, Int32.lt_iff_toInt_lt, Int32.le_iff_toInt_le, ← Int32.toInt_inj, Int32.toInt_add, Int32.toInt_sub, Int32.toInt_mul, Int32.toInt_neg, Int32.reduceToInt, g_bm, g_bm'] at *; simp at *; omega) | (simp_all; done)
set_option maxRecDepth 100000 in
theorem g_X11_isChain_v1 (x : Int32) (b3_4 : ¬ ((0 : Int32) ≤ x ∧ x ≤ (3 : Int32))) : (0 = (1 : Int32) ∧ (0 ≤ x ∧ x ≤ 3)) ∨ (0 = (0 : Int32) ∧ ¬ (0 ≤ x ∧ x ≤ 3)) := by
  first | omega | ((try simp only [g_m1, Int32.lt_iff_toInt_lt, Int32.le_iff_toInt_le, ← Int32.toInt_inj, Int32.reduceToInt] at *); omega) | ((try simp only [g_m1, Int32.lt_iff_toInt_lt, Int32.le_iff_toInt_le, ← Int32.toInt_inj, Int32.reduceToInt] at *); omega) | ((try simp only [g_m1, Int32.lt_iff_toInt_lt, Int32.le_iff_toInt_le, ← Int32.toInt_inj, Int32.toInt_add, Int32.toInt_sub, Int32.toInt_mul, Int32.toInt_neg, Int32.reduceToInt, g_bm, g_bm'] at *); omega) | (have qr1 := g_rng x; (try simp only [g_m1, Int32.lt_iff_toInt_lt, Int32.le_iff_toInt_le, ← Int32.toInt_inj, Int32.toInt_add, Int32.toInt_sub, Int32.toInt_mul, Int32.toInt_neg, Int32.reduceToInt, g_bm, g_bm'] at *); omega) | (simp only [g_m1, Int32.lt_iff_toInt_lt, Int32.le_iff_toInt_le, ← Int32.toInt_inj, Int32.toInt_add, Int32.toInt_sub, Int32.toInt_mul, Int32.toInt_neg, Int32.reduceToInt, g_bm, g_bm'] at *; simp at *; omega) | (simp_all; done)
set_option maxHeartbeats 1000000 in
set_option maxRecDepth 100000 in
theorem g_X11_isChain (l : Launch) (E : qE) (A : Nat → Prop) (u : qS) (x : Int32) : Met l yX11_isChain (uws yX11_isChain cX11_isChain 1 (some .boolean)) (qR 1 0 0) (qPc E A 0 u [.int x]) (qQi E A 0 (fun r u1 => u1 = u ∧ ((r = 1 ∧ (0 ≤ x ∧ x ≤ 3)) ∨ (r = 0 ∧ ¬ (0 ≤ x ∧ x ≤ 3))))) 0 0 A := by
  refine q_met (own := RX11) (f := 1) [.int x] (by decide) (Nat.le_of_ble_eq_true rfl) rfl ?_
  intro p0 e0 s0 m0 bl0 me0 cd0 ls hF hr hlocks hU hS hA hl
  have hl : lv_has ls 1 [(0, .int x)] := hl
  refine lv_iload_n hF.1 hF.2.1 dX11_isChain_0 rfl (lv_at hl 0 rfl) ?_
  refine lv_iconst (v := 0) hF.1 hF.2.1 dX11_isChain_1 (by decide) ?_
  refine lv_iconst (v := 3) hF.1 hF.2.1 dX11_isChain_2 (by decide) ?_
  have hM9 := g_X11_isWithin l E A u x 0 3
  have hR9 := q_runS (l := l) (e := e0) (below := bl0) (meth := me0) (R := qR 1 0 0) (cells := 0) (slots := 0) (st0 := [.int 3, .int 0, .int x]) (rest := []) hF hU hS hA 3 hM9 w_468 w_469 w_99 w_470 (by decide +kernel) ⟨Nat.le_of_ble_eq_true rfl, Nat.le_of_ble_eq_true rfl⟩ dX11_isChain_3 rfl hl.1 rfl (Nat.le_of_ble_eq_true rfl) ⟨Nat.le_of_ble_eq_true rfl, Nat.le_of_ble_eq_true rfl⟩
  refine q_calli hR9 hU.2.2.2 hS (fun r_3 u_1 H locs hw_2 hU hS => ?_)
  obtain ⟨hw_2_e, hw_2⟩ := hw_2
  rw [hw_2_e] at hU
  have hw_2 : (r_3 = 1 ∧ ((0 : Int32) ≤ x ∧ x ≤ (3 : Int32))) ∨ (r_3 = 0 ∧ (¬ ((0 : Int32) ≤ x ∧ x ≤ (3 : Int32)))) := hw_2
  rcases hw_2 with ⟨rfl, b3_4⟩ | ⟨rfl, b3_4⟩
  · exact q_iret hF hr (by decide) hlocks hU hS dX11_isChain_6 ⟨rfl, (g_X11_isChain_v0 x b3_4)⟩
  · exact q_iret hF hr (by decide) hlocks hU hS dX11_isChain_6 ⟨rfl, (g_X11_isChain_v1 x b3_4)⟩
set_option maxRecDepth 100000 in
theorem g_X10_counts_v0 (u : qS) (o : Nat) (hz8 : 0 ≤ u.1 8 ∧ u.1 8 ≤ 20) (hz9 : 0 ≤ u.1 9 ∧ u.1 9 ≤ 8) (hz10 : 0 ≤ u.1 10 ∧ u.1 10 ≤ 120) (hz12 : 0 ≤ u.1 12 ∧ u.1 12 ≤ 16) (c4_6 : (qfd u.2.2.2.2 o 10 : Int32) = 0) : (1 : Int32) = 1 ∨ (1 : Int32) = 0 := by
  first | omega | ((try simp only [g_m1, Int32.lt_iff_toInt_lt, Int32.le_iff_toInt_le, ← Int32.toInt_inj, Int32.reduceToInt] at *); omega) | ((try simp only [g_m1, Int32.lt_iff_toInt_lt, Int32.le_iff_toInt_le, ← Int32.toInt_inj, Int32.reduceToInt] at *); omega) | ((try simp only [g_m1, Int32.lt_iff_toInt_lt, Int32.le_iff_toInt_le, ← Int32.toInt_inj, Int32.toInt_add, Int32.toInt_sub, Int32.toInt_mul, Int32.toInt_neg, Int32.reduceToInt, g_bm, g_bm'] at *); omega) | ((try simp only [g_m1, Int32.lt_iff_toInt_lt, Int32.le_iff_toInt_le, ← Int32.toInt_inj, Int32.toInt_add, Int32.toInt_sub, Int32.toInt_mul, Int32.toInt_neg, Int32.reduceToInt, g_bm, g_bm'] at *); omega) | (simp only [g_m1, Int32.lt_iff_toInt_lt, Int32.le_iff_toInt_le, ← Int32.toInt_inj, Int32.toInt_add, Int32.toInt_sub, Int32.toInt_mul, Int32.toInt_neg, Int32.reduceToInt, g_bm, g_bm'] at *; simp at *; omega) | (simp_all; done)
set_option maxRecDepth 100000 in
theorem g_X10_counts_v1 (u : qS) (o : Nat) (hz8 : 0 ≤ u.1 8 ∧ u.1 8 ≤ 20) (hz9 : 0 ≤ u.1 9 ∧ u.1 9 ≤ 8) (hz10 : 0 ≤ u.1 10 ∧ u.1 10 ≤ 120) (hz12 : 0 ≤ u.1 12 ∧ u.1 12 ≤ 16) (c4_6 : ¬ (qfd u.2.2.2.2 o 10 : Int32) = 0) (c12_12 : ¬ (qfd u.2.2.2.2 o 10 : Int32) = 3) : (0 : Int32) = 1 ∨ (0 : Int32) = 0 := by
  first | omega | ((try simp only [g_m1, Int32.lt_iff_toInt_lt, Int32.le_iff_toInt_le, ← Int32.toInt_inj, Int32.reduceToInt] at *); omega) | ((try simp only [g_m1, Int32.lt_iff_toInt_lt, Int32.le_iff_toInt_le, ← Int32.toInt_inj, Int32.reduceToInt] at *); omega) | ((try simp only [g_m1, Int32.lt_iff_toInt_lt, Int32.le_iff_toInt_le, ← Int32.toInt_inj, Int32.toInt_add, Int32.toInt_sub, Int32.toInt_mul, Int32.toInt_neg, Int32.reduceToInt, g_bm, g_bm'] at *); omega) | ((try simp only [g_m1, Int32.lt_iff_toInt_lt, Int32.le_iff_toInt_le, ← Int32.toInt_inj, Int32.toInt_add, Int32.toInt_sub, Int32.toInt_mul, Int32.toInt_neg, Int32.reduceToInt, g_bm, g_bm'] at *); omega) | (simp only [g_m1, Int32.lt_iff_toInt_lt, Int32.le_iff_toInt_le, ← Int32.toInt_inj, Int32.toInt_add, Int32.toInt_sub, Int32.toInt_mul, Int32.toInt_neg, Int32.reduceToInt, g_bm, g_bm'] at *; simp at *; omega) | (simp_all; done)
set_option maxRecDepth 100000 in
theorem g_X10_counts_v2 (u : qS) (o : Nat) (hz8 : 0 ≤ u.1 8 ∧ u.1 8 ≤ 20) (hz9 : 0 ≤ u.1 9 ∧ u.1 9 ≤ 8) (hz10 : 0 ≤ u.1 10 ∧ u.1 10 ≤ 120) (hz12 : 0 ≤ u.1 12 ∧ u.1 12 ≤ 16) (c4_6 : ¬ (qfd u.2.2.2.2 o 10 : Int32) = 0) (c12_12 : (qfd u.2.2.2.2 o 10 : Int32) = 3) : (1 : Int32) = 1 ∨ (1 : Int32) = 0 := by
  first | omega | ((try simp only [g_m1, Int32.lt_iff_toInt_lt, Int32.le_iff_toInt_le, ← Int32.toInt_inj, Int32.reduceToInt] at *); omega) | ((try simp only [g_m1, Int32.lt_iff_toInt_lt, Int32.le_iff_toInt_le, ← Int32.toInt_inj, Int32.reduceToInt] at *); omega) | ((try simp only [g_m1, Int32.lt_iff_toInt_lt, Int32.le_iff_toInt_le, ← Int32.toInt_inj, Int32.toInt_add, Int32.toInt_sub, Int32.toInt_mul, Int32.toInt_neg, Int32.reduceToInt, g_bm, g_bm'] at *); omega) | ((try simp only [g_m1, Int32.lt_iff_toInt_lt, Int32.le_iff_toInt_le, ← Int32.toInt_inj, Int32.toInt_add, Int32.toInt_sub, Int32.toInt_mul, Int32.toInt_neg, Int32.reduceToInt, g_bm, g_bm'] at *); omega) | (simp only [g_m1, Int32.lt_iff_toInt_lt, Int32.le_iff_toInt_le, ← Int32.toInt_inj, Int32.toInt_add, Int32.toInt_sub, Int32.toInt_mul, Int32.toInt_neg, Int32.reduceToInt, g_bm, g_bm'] at *; simp at *; omega) | (simp_all; done)
set_option maxHeartbeats 1000000 in
set_option maxRecDepth 100000 in
theorem g_X10_counts (l : Launch) (E : qE) (A : Nat → Prop) (u : qS) (o : Nat) (hI : IC E u) (ho : qRf u o 10) : Met l yX10_counts (uws yX10_counts cX10_counts 1 (some .boolean)) (qR 0 0 0) (qPc E A 0 u [.ref o]) (qQi E A 0 (fun r u1 => u1 = u ∧ (r = 1 ∨ r = 0))) 0 0 A := by
  refine q_met (own := RX10) (f := 0) [.ref o] (by decide) (Nat.le_of_ble_eq_true rfl) rfl ?_
  intro p0 e0 s0 m0 bl0 me0 cd0 ls hF hr hlocks hU hS hA hl
  have hl : lv_has ls 1 [(0, .ref o)] := hl
  have hz8 : 0 ≤ u.1 8 ∧ u.1 8 ≤ 20 := hI.1.s8
  have hz9 : 0 ≤ u.1 9 ∧ u.1 9 ≤ 8 := hI.1.s9
  have hz10 : 0 ≤ u.1 10 ∧ u.1 10 ≤ 120 := hI.1.s10
  have hz12 : 0 ≤ u.1 12 ∧ u.1 12 ≤ 16 := hI.1.s12
  refine lv_aload_n hF.1 hF.2.1 dX10_counts_0 rfl (lv_at hl 0 rfl) ?_
  obtain ⟨k_1, fs_2, hd_4, hv_5, hv_5_2, hv_5_3, -⟩ := hI.vf ho 10 (by decide)
  refine q_getd (v := .int (qfd u.2.2.2.2 o 10)) hF hU dX10_counts_1 k_1 10 10 hd_4 rfl inX10 (by decide) w_622 rfl hv_5 ?_
  refine lv_if_eq (tgt := 15) hF.1 hF.2.1 dX10_counts_4 (by decide) (fun c4_6 => ?_) (fun c4_6 => ?_)
  · refine lv_iconst (v := 1) hF.1 hF.2.1 dX10_counts_15 (by decide) ?_
    refine lv_goto (tgt := 20) hF.1 hF.2.1 dX10_counts_16 (by decide) ?_
    exact q_iret hF hr (by decide) hlocks hU hS dX10_counts_20 ⟨rfl, (g_X10_counts_v0 u o hz8 hz9 hz10 hz12 c4_6)⟩
  · refine lv_aload_n hF.1 hF.2.1 dX10_counts_7 rfl (lv_at hl 0 rfl) ?_
    obtain ⟨k_7, fs_8, hd_10, hv_11, hv_11_2, hv_11_3, -⟩ := hI.vf ho 10 (by decide)
    refine q_getd (v := .int (qfd u.2.2.2.2 o 10)) hF hU dX10_counts_8 k_7 10 10 hd_10 rfl inX10 (by decide) w_622 rfl hv_11 ?_
    refine lv_iconst (v := 3) hF.1 hF.2.1 dX10_counts_11 (by decide) ?_
    refine lv_icmp_ne (tgt := 19) hF.1 hF.2.1 dX10_counts_12 (by decide) (fun c12_12 => ?_) (fun c12_12 => ?_)
    · refine lv_iconst (v := 0) hF.1 hF.2.1 dX10_counts_19 (by decide) ?_
      exact q_iret hF hr (by decide) hlocks hU hS dX10_counts_20 ⟨rfl, (g_X10_counts_v1 u o hz8 hz9 hz10 hz12 c4_6 c12_12)⟩
    · refine lv_iconst (v := 1) hF.1 hF.2.1 dX10_counts_15 (by decide) ?_
      refine lv_goto (tgt := 20) hF.1 hF.2.1 dX10_counts_16 (by decide) ?_
      exact q_iret hF hr (by decide) hlocks hU hS dX10_counts_20 ⟨rfl, (g_X10_counts_v2 u o hz8 hz9 hz10 hz12 c4_6 c12_12)⟩
set_option maxHeartbeats 1000000 in
set_option maxRecDepth 100000 in
theorem g_X10_endMinute (l : Launch) (E : qE) (A : Nat → Prop) (u : qS) (o : Nat) (hI : IC E u) (ho : qRf u o 10) : Met l yX10_endMinute (uws yX10_endMinute cX10_endMinute 1 (some .int)) (qR 0 0 0) (qPc E A 0 u [.ref o]) (qQi E A 0 (fun r u1 => u1 = u ∧ (True))) 0 0 A := by
  refine q_met (own := RX10) (f := 0) [.ref o] (by decide) (Nat.le_of_ble_eq_true rfl) rfl ?_
  intro p0 e0 s0 m0 bl0 me0 cd0 ls hF hr hlocks hU hS hA hl
  have hl : lv_has ls 1 [(0, .ref o)] := hl
  have hz8 : 0 ≤ u.1 8 ∧ u.1 8 ≤ 20 := hI.1.s8
  have hz9 : 0 ≤ u.1 9 ∧ u.1 9 ≤ 8 := hI.1.s9
  have hz10 : 0 ≤ u.1 10 ∧ u.1 10 ≤ 120 := hI.1.s10
  have hz12 : 0 ≤ u.1 12 ∧ u.1 12 ≤ 16 := hI.1.s12
  refine lv_aload_n hF.1 hF.2.1 dX10_endMinute_0 rfl (lv_at hl 0 rfl) ?_
  obtain ⟨k_1, fs_2, hd_4, hv_5, hv_5_2, hv_5_3, -⟩ := hI.vf ho 5 (by decide)
  refine q_getd (v := .int (qfd u.2.2.2.2 o 5)) hF hU dX10_endMinute_1 k_1 10 5 hd_4 rfl inX10 (by decide) w_605 rfl hv_5 ?_
  refine lv_aload_n hF.1 hF.2.1 dX10_endMinute_4 rfl (lv_at hl 0 rfl) ?_
  obtain ⟨k_6, fs_7, hd_9, hv_10, hv_10_2, hv_10_3, -⟩ := hI.vf ho 6 (by decide)
  refine q_getd (v := .int (qfd u.2.2.2.2 o 6)) hF hU dX10_endMinute_5 k_6 10 6 hd_9 rfl inX10 (by decide) w_609 rfl hv_10 ?_
  refine lv_iadd hF.1 hF.2.1 dX10_endMinute_8 ?_
  exact q_iret hF hr rfl hlocks hU hS dX10_endMinute_9 ⟨rfl, trivial⟩
set_option maxHeartbeats 1000000 in
set_option maxRecDepth 100000 in
theorem g_X10_inWeek (l : Launch) (E : qE) (A : Nat → Prop) (u : qS) (o : Nat) (hI : IC E u) (ho : qRf u o 10) : Met l yX10_inWeek (uws yX10_inWeek cX10_inWeek 1 (some .int)) (qR 0 0 0) (qPc E A 0 u [.ref o]) (qQi E A 0 (fun r u1 => u1 = u ∧ (True))) 0 0 A := by
  refine q_met (own := RX10) (f := 0) [.ref o] (by decide) (Nat.le_of_ble_eq_true rfl) rfl ?_
  intro p0 e0 s0 m0 bl0 me0 cd0 ls hF hr hlocks hU hS hA hl
  have hl : lv_has ls 1 [(0, .ref o)] := hl
  have hz8 : 0 ≤ u.1 8 ∧ u.1 8 ≤ 20 := hI.1.s8
  have hz9 : 0 ≤ u.1 9 ∧ u.1 9 ≤ 8 := hI.1.s9
  have hz10 : 0 ≤ u.1 10 ∧ u.1 10 ≤ 120 := hI.1.s10
  have hz12 : 0 ≤ u.1 12 ∧ u.1 12 ≤ 16 := hI.1.s12
  refine lv_aload_n hF.1 hF.2.1 dX10_inWeek_0 rfl (lv_at hl 0 rfl) ?_
  obtain ⟨k_1, fs_2, hd_4, hv_5, hv_5_2, hv_5_3, -⟩ := hI.vf ho 4 (by decide)
  refine q_getd (v := .int (qfd u.2.2.2.2 o 4)) hF hU dX10_inWeek_1 k_1 10 4 hd_4 rfl inX10 (by decide) w_600 rfl hv_5 ?_
  refine lv_bipush (v := 7) hF.1 hF.2.1 dX10_inWeek_4 (by decide) ?_
  refine lv_idiv hF.1 hF.2.1 dX10_inWeek_6 (by decide) ?_
  exact q_iret hF hr rfl hlocks hU hS dX10_inWeek_7 ⟨rfl, trivial⟩
set_option maxRecDepth 100000 in
theorem g_X4_wayTo_v0 (u : qS) (o : Nat) (x : Nat) (r_11 : Int32) (r_22 : Int32) (hz8 : 0 ≤ u.1 8 ∧ u.1 8 ≤ 20) (hz9 : 0 ≤ u.1 9 ∧ u.1 9 ≤ 8) (hz10 : 0 ≤ u.1 10 ∧ u.1 10 ≤ 120) (hz12 : 0 ≤ u.1 12 ∧ u.1 12 ≤ 16) (hr_11 : r_11 = (if 0 ≤ ((qpd u.2.2.2.2 o 0) - (qpd u.2.2.2.2 x 0) : Int32) then ((qpd u.2.2.2.2 o 0) - (qpd u.2.2.2.2 x 0)) else 0 - ((qpd u.2.2.2.2 o 0) - (qpd u.2.2.2.2 x 0)))) (hr_22 : r_22 = (if 0 ≤ ((qpd u.2.2.2.2 o 1) - (qpd u.2.2.2.2 x 1) : Int32) then ((qpd u.2.2.2.2 o 1) - (qpd u.2.2.2.2 x 1)) else 0 - ((qpd u.2.2.2.2 o 1) - (qpd u.2.2.2.2 x 1)))) : (r_11 + r_22 : Int32) = c_ab (qpd u.2.2.2.2 o 0 - qpd u.2.2.2.2 x 0) + c_ab (qpd u.2.2.2.2 o 1 - qpd u.2.2.2.2 x 1) := by
  subst hr_11; subst hr_22; rfl
set_option maxHeartbeats 1000000 in
set_option maxRecDepth 100000 in
theorem g_X4_wayTo (l : Launch) (E : qE) (A : Nat → Prop) (u : qS) (o : Nat) (x : Nat) (hI : IC E u) (ho : qRf u o 4) (hx : qRf u x 4) : Met l yX4_wayTo (uws yX4_wayTo cX4_wayTo 2 (some .int)) (qR 2 0 0) (qPc E A 0 u [.ref o, .ref x]) (qQi E A 0 (fun r u1 => u1 = u ∧ (r = c_ab (qpd u.2.2.2.2 o 0 - qpd u.2.2.2.2 x 0) + c_ab (qpd u.2.2.2.2 o 1 - qpd u.2.2.2.2 x 1)))) 0 0 A := by
  refine q_met (own := RX4) (f := 2) [.ref o, .ref x] (by decide) (Nat.le_of_ble_eq_true rfl) rfl ?_
  intro p0 e0 s0 m0 bl0 me0 cd0 ls hF hr hlocks hU hS hA hl
  have hl : lv_has ls 2 [(0, .ref o), (1, .ref x)] := hl
  have hz8 : 0 ≤ u.1 8 ∧ u.1 8 ≤ 20 := hI.1.s8
  have hz9 : 0 ≤ u.1 9 ∧ u.1 9 ≤ 8 := hI.1.s9
  have hz10 : 0 ≤ u.1 10 ∧ u.1 10 ≤ 120 := hI.1.s10
  have hz12 : 0 ≤ u.1 12 ∧ u.1 12 ≤ 16 := hI.1.s12
  refine lv_aload_n hF.1 hF.2.1 dX4_wayTo_0 rfl (lv_at hl 0 rfl) ?_
  obtain ⟨k_1, fs_2, hd_4, hv_5⟩ := hI.pf ho 0 (by decide)
  refine q_getd (v := .int (qpd u.2.2.2.2 o 0)) hF hU dX4_wayTo_1 k_1 4 0 hd_4 rfl inX4 (by decide) w_508 rfl hv_5 ?_
  refine lv_aload_n hF.1 hF.2.1 dX4_wayTo_4 rfl (lv_at hl 1 rfl) ?_
  obtain ⟨k_6, fs_7, hd_9, hv_10⟩ := hI.pf hx 0 (by decide)
  refine q_getd (v := .int (qpd u.2.2.2.2 x 0)) hF hU dX4_wayTo_5 k_6 4 0 hd_9 rfl inX4 (by decide) w_508 rfl hv_10 ?_
  refine lv_isub hF.1 hF.2.1 dX4_wayTo_8 ?_
  refine va_mabs hF.1 hF.2.1 (hF.2.2.1.trans hl.1.symm) hF.2.2.2.1 (hF.2.2.2.2 _ w_884) (hF.2.2.2.2 _ w_885) (hF.2.2.2.2 _ w_113) (hF.2.2.2.2 _ w_886) (by decide) (Nat.le_of_ble_eq_true rfl) (by decide) (by decide) dX4_wayTo_9 ?_
  obtain ⟨r_11, hr_11⟩ : ∃ z : Int32, z = (if 0 ≤ ((qpd u.2.2.2.2 o 0) - (qpd u.2.2.2.2 x 0) : Int32) then ((qpd u.2.2.2.2 o 0) - (qpd u.2.2.2.2 x 0)) else 0 - ((qpd u.2.2.2.2 o 0) - (qpd u.2.2.2.2 x 0))) := ⟨_, rfl⟩
  refine q_topi hr_11.symm ?_
  refine lv_aload_n hF.1 hF.2.1 dX4_wayTo_12 rfl (lv_at hl 0 rfl) ?_
  obtain ⟨k_12, fs_13, hd_15, hv_16⟩ := hI.pf ho 1 (by decide)
  refine q_getd (v := .int (qpd u.2.2.2.2 o 1)) hF hU dX4_wayTo_13 k_12 4 1 hd_15 rfl inX4 (by decide) w_509 rfl hv_16 ?_
  refine lv_aload_n hF.1 hF.2.1 dX4_wayTo_16 rfl (lv_at hl 1 rfl) ?_
  obtain ⟨k_17, fs_18, hd_20, hv_21⟩ := hI.pf hx 1 (by decide)
  refine q_getd (v := .int (qpd u.2.2.2.2 x 1)) hF hU dX4_wayTo_17 k_17 4 1 hd_20 rfl inX4 (by decide) w_509 rfl hv_21 ?_
  refine lv_isub hF.1 hF.2.1 dX4_wayTo_20 ?_
  refine va_mabs hF.1 hF.2.1 (hF.2.2.1.trans hl.1.symm) hF.2.2.2.1 (hF.2.2.2.2 _ w_884) (hF.2.2.2.2 _ w_885) (hF.2.2.2.2 _ w_113) (hF.2.2.2.2 _ w_886) (by decide) (Nat.le_of_ble_eq_true rfl) (by decide) (by decide) dX4_wayTo_21 ?_
  obtain ⟨r_22, hr_22⟩ : ∃ z : Int32, z = (if 0 ≤ ((qpd u.2.2.2.2 o 1) - (qpd u.2.2.2.2 x 1) : Int32) then ((qpd u.2.2.2.2 o 1) - (qpd u.2.2.2.2 x 1)) else 0 - ((qpd u.2.2.2.2 o 1) - (qpd u.2.2.2.2 x 1))) := ⟨_, rfl⟩
  refine q_topi hr_22.symm ?_
  refine lv_iadd hF.1 hF.2.1 dX4_wayTo_24 ?_
  exact q_iret hF hr rfl hlocks hU hS dX4_wayTo_25 ⟨rfl, (g_X4_wayTo_v0 u o x r_11 r_22 hz8 hz9 hz10 hz12 hr_11 hr_22)⟩
set_option maxRecDepth 100000 in
theorem g_X0_hasShop_v0 (u : qS) (x : Int32) (hz8 : 0 ≤ u.1 8 ∧ u.1 8 ≤ 20) (hz9 : 0 ≤ u.1 9 ∧ u.1 9 ≤ 8) (hz10 : 0 ≤ u.1 10 ∧ u.1 10 ≤ 120) (hz12 : 0 ≤ u.1 12 ∧ u.1 12 ≤ 16) (b8_4 : (0 : Int32) ≤ x ∧ x ≤ ((u.1 8) - 1)) : (1 = (1 : Int32) ∧ (0 ≤ x ∧ x < u.1 8)) ∨ (1 = (0 : Int32) ∧ ¬ (0 ≤ x ∧ x < u.1 8)) := by
  first | omega | ((try simp only [g_m1, Int32.lt_iff_toInt_lt, Int32.le_iff_toInt_le, ← Int32.toInt_inj, Int32.reduceToInt] at *); omega) | ((try have ez0 : ((u.1 8) - 1 : Int32).toInt = (u.1 8 : Int32).toInt - (1 : Int32).toInt := g_sub (by (try simp only [g_m1, Int32.lt_iff_toInt_lt, Int32.le_iff_toInt_le, ← Int32.toInt_inj, Int32.reduceToInt] at *); omega) (by (try simp only [g_m1, Int32.lt_iff_toInt_lt, Int32.le_iff_toInt_le, ← Int32.toInt_inj, Int32.reduceToInt] at *); omega)); (try simp only [g_m1, Int32.lt_iff_toInt_lt, Int32.le_iff_toInt_le, ← Int32.toInt_inj, Int32.reduceToInt] at *); omega) | ((try simp only [g_m1, Int32.lt_iff_toInt_lt, Int32.le_iff_toInt_le, ← Int32.toInt_inj, Int32.toInt_add, Int32.toInt_sub, Int32.toInt_mul, Int32.toInt_neg, Int32.reduceToInt, g_bm, g_bm'] at *); omega) | (have qr1 := g_rng x; (try simp only [g_m1, Int32.lt_iff_toInt_lt, Int32.le_iff_toInt_le, ← Int32.toInt_inj, Int32.toInt_add, Int32.toInt_sub, Int32.toInt_mul, Int32.toInt_neg, Int32.reduceToInt, g_bm, g_bm'] at *); omega) | (simp only [g_m1, Int32.lt_iff_toInt_lt, Int32.le_iff_toInt_le, ← Int32.toInt_inj, Int32.toInt_add, Int32.toInt_sub, Int32.toInt_mul, Int32.toInt_neg, Int32.reduceToInt, g_bm, g_bm'] at *; simp at *; omega) | (simp_all; done)
set_option maxRecDepth 100000 in
theorem g_X0_hasShop_v1 (u : qS) (x : Int32) (hz8 : 0 ≤ u.1 8 ∧ u.1 8 ≤ 20) (hz9 : 0 ≤ u.1 9 ∧ u.1 9 ≤ 8) (hz10 : 0 ≤ u.1 10 ∧ u.1 10 ≤ 120) (hz12 : 0 ≤ u.1 12 ∧ u.1 12 ≤ 16) (b8_4 : ¬ ((0 : Int32) ≤ x ∧ x ≤ ((u.1 8) - 1))) : (0 = (1 : Int32) ∧ (0 ≤ x ∧ x < u.1 8)) ∨ (0 = (0 : Int32) ∧ ¬ (0 ≤ x ∧ x < u.1 8)) := by
  first | omega | ((try simp only [g_m1, Int32.lt_iff_toInt_lt, Int32.le_iff_toInt_le, ← Int32.toInt_inj, Int32.reduceToInt] at *); omega) | ((try have ez0 : ((u.1 8) - 1 : Int32).toInt = (u.1 8 : Int32).toInt - (1 : Int32).toInt := g_sub (by (try simp only [g_m1, Int32.lt_iff_toInt_lt, Int32.le_iff_toInt_le, ← Int32.toInt_inj, Int32.reduceToInt] at *); omega) (by (try simp only [g_m1, Int32.lt_iff_toInt_lt, Int32.le_iff_toInt_le, ← Int32.toInt_inj, Int32.reduceToInt] at *); omega)); (try simp only [g_m1, Int32.lt_iff_toInt_lt, Int32.le_iff_toInt_le, ← Int32.toInt_inj, Int32.reduceToInt] at *); omega) | ((try simp only [g_m1, Int32.lt_iff_toInt_lt, Int32.le_iff_toInt_le, ← Int32.toInt_inj, Int32.toInt_add, Int32.toInt_sub, Int32.toInt_mul, Int32.toInt_neg, Int32.reduceToInt, g_bm, g_bm'] at *); omega) | (have qr1 := g_rng x; (try simp only [g_m1, Int32.lt_iff_toInt_lt, Int32.le_iff_toInt_le, ← Int32.toInt_inj, Int32.toInt_add, Int32.toInt_sub, Int32.toInt_mul, Int32.toInt_neg, Int32.reduceToInt, g_bm, g_bm'] at *); omega) | (simp only [g_m1, Int32.lt_iff_toInt_lt, Int32.le_iff_toInt_le, ← Int32.toInt_inj, Int32.toInt_add, Int32.toInt_sub, Int32.toInt_mul, Int32.toInt_neg, Int32.reduceToInt, g_bm, g_bm'] at *; simp at *; omega) | (simp_all; done)
set_option maxHeartbeats 1000000 in
set_option maxRecDepth 100000 in
theorem g_X0_hasShop (l : Launch) (E : qE) (A : Nat → Prop) (u : qS) (x : Int32) (hI : IC E u) : Met l yX0_hasShop (uws yX0_hasShop cX0_hasShop 2 (some .boolean)) (qR 1 0 0) (qPc E A 0 u [.ref (E.2.2 99), .int x]) (qQi E A 0 (fun r u1 => u1 = u ∧ ((r = 1 ∧ (0 ≤ x ∧ x < u.1 8)) ∨ (r = 0 ∧ ¬ (0 ≤ x ∧ x < u.1 8))))) 0 0 A := by
  refine q_met (own := RX0) (f := 1) [.ref (E.2.2 99), .int x] (by decide) (Nat.le_of_ble_eq_true rfl) rfl ?_
  intro p0 e0 s0 m0 bl0 me0 cd0 ls hF hr hlocks hU hS hA hl
  have hl : lv_has ls 2 [(0, .ref (E.2.2 99)), (1, .int x)] := hl
  have hz8 : 0 ≤ u.1 8 ∧ u.1 8 ≤ 20 := hI.1.s8
  have hz9 : 0 ≤ u.1 9 ∧ u.1 9 ≤ 8 := hI.1.s9
  have hz10 : 0 ≤ u.1 10 ∧ u.1 10 ≤ 120 := hI.1.s10
  have hz12 : 0 ≤ u.1 12 ∧ u.1 12 ≤ 16 := hI.1.s12
  refine lv_iload_n hF.1 hF.2.1 dX0_hasShop_0 rfl (lv_at hl 1 rfl) ?_
  refine lv_iconst (v := 0) hF.1 hF.2.1 dX0_hasShop_1 (by decide) ?_
  refine lv_aload_n hF.1 hF.2.1 dX0_hasShop_2 rfl (lv_at hl 0 rfl) ?_
  refine q_get (v := .int (u.1 8)) hF hU dX0_hasShop_3 1 0 8 8 99 rfl rfl rfl rfl inX0 (by decide) (by decide) w_161 rfl rfl ?_
  refine lv_iconst (v := 1) hF.1 hF.2.1 dX0_hasShop_6 (by decide) ?_
  refine lv_isub hF.1 hF.2.1 dX0_hasShop_7 ?_
  have hM9 := g_X11_isWithin l E A u x 0 ((u.1 8) - 1)
  have hR9 := q_runSN (l := l) (e := e0) (below := bl0) (meth := me0) (R := qR 1 0 0) (cells := 0) (slots := 0) (st0 := [.int ((u.1 8) - 1), .int 0, .int x]) (rest := []) (host := "SecretBuyers") hF hU hS hA 3 hM9 hU.2.2.2.n567 w_469 w_99 w_470 (by decide +kernel) ⟨Nat.le_of_ble_eq_true rfl, Nat.le_of_ble_eq_true rfl⟩ dX0_hasShop_8 rfl hl.1 rfl (Nat.le_of_ble_eq_true rfl) ⟨Nat.le_of_ble_eq_true rfl, Nat.le_of_ble_eq_true rfl⟩
  refine q_calli hR9 hU.2.2.2 hS (fun r_3 u_1 H locs hw_2 hU hS => ?_)
  obtain ⟨hw_2_e, hw_2⟩ := hw_2
  rw [hw_2_e] at hU
  have hw_2 : (r_3 = 1 ∧ ((0 : Int32) ≤ x ∧ x ≤ ((u.1 8) - 1))) ∨ (r_3 = 0 ∧ (¬ ((0 : Int32) ≤ x ∧ x ≤ ((u.1 8) - 1)))) := hw_2
  rcases hw_2 with ⟨rfl, b8_4⟩ | ⟨rfl, b8_4⟩
  · exact q_iret hF hr (by decide) hlocks hU hS dX0_hasShop_11 ⟨rfl, (g_X0_hasShop_v0 u x hz8 hz9 hz10 hz12 b8_4)⟩
  · exact q_iret hF hr (by decide) hlocks hU hS dX0_hasShop_11 ⟨rfl, (g_X0_hasShop_v1 u x hz8 hz9 hz10 hz12 b8_4)⟩
set_option maxRecDepth 100000 in
theorem g_X0_hasBuyer_v0 (u : qS) (x : Int32) (hz8 : 0 ≤ u.1 8 ∧ u.1 8 ≤ 20) (hz9 : 0 ≤ u.1 9 ∧ u.1 9 ≤ 8) (hz10 : 0 ≤ u.1 10 ∧ u.1 10 ≤ 120) (hz12 : 0 ≤ u.1 12 ∧ u.1 12 ≤ 16) (b8_4 : (0 : Int32) ≤ x ∧ x ≤ ((u.1 9) - 1)) : (1 = (1 : Int32) ∧ (0 ≤ x ∧ x < u.1 9)) ∨ (1 = (0 : Int32) ∧ ¬ (0 ≤ x ∧ x < u.1 9)) := by
  first | omega | ((try simp only [g_m1, Int32.lt_iff_toInt_lt, Int32.le_iff_toInt_le, ← Int32.toInt_inj, Int32.reduceToInt] at *); omega) | ((try have ez0 : ((u.1 9) - 1 : Int32).toInt = (u.1 9 : Int32).toInt - (1 : Int32).toInt := g_sub (by (try simp only [g_m1, Int32.lt_iff_toInt_lt, Int32.le_iff_toInt_le, ← Int32.toInt_inj, Int32.reduceToInt] at *); omega) (by (try simp only [g_m1, Int32.lt_iff_toInt_lt, Int32.le_iff_toInt_le, ← Int32.toInt_inj, Int32.reduceToInt] at *); omega)); (try simp only [g_m1, Int32.lt_iff_toInt_lt, Int32.le_iff_toInt_le, ← Int32.toInt_inj, Int32.reduceToInt] at *); omega) | ((try simp only [g_m1, Int32.lt_iff_toInt_lt, Int32.le_iff_toInt_le, ← Int32.toInt_inj, Int32.toInt_add, Int32.toInt_sub, Int32.toInt_mul, Int32.toInt_neg, Int32.reduceToInt, g_bm, g_bm'] at *); omega) | (have qr1 := g_rng x; (try simp only [g_m1, Int32.lt_iff_toInt_lt, Int32.le_iff_toInt_le, ← Int32.toInt_inj, Int32.toInt_add, Int32.toInt_sub, Int32.toInt_mul, Int32.toInt_neg, Int32.reduceToInt, g_bm, g_bm'] at *); omega) | (simp only [g_m1, Int32.lt_iff_toInt_lt, Int32.le_iff_toInt_le, ← Int32.toInt_inj, Int32.toInt_add, Int32.toInt_sub, Int32.toInt_mul, Int32.toInt_neg, Int32.reduceToInt, g_bm, g_bm'] at *; simp at *; omega) | (simp_all; done)
set_option maxRecDepth 100000 in
theorem g_X0_hasBuyer_v1 (u : qS) (x : Int32) (hz8 : 0 ≤ u.1 8 ∧ u.1 8 ≤ 20) (hz9 : 0 ≤ u.1 9 ∧ u.1 9 ≤ 8) (hz10 : 0 ≤ u.1 10 ∧ u.1 10 ≤ 120) (hz12 : 0 ≤ u.1 12 ∧ u.1 12 ≤ 16) (b8_4 : ¬ ((0 : Int32) ≤ x ∧ x ≤ ((u.1 9) - 1))) : (0 = (1 : Int32) ∧ (0 ≤ x ∧ x < u.1 9)) ∨ (0 = (0 : Int32) ∧ ¬ (0 ≤ x ∧ x < u.1 9)) := by
  first | omega | ((try simp only [g_m1, Int32.lt_iff_toInt_lt, Int32.le_iff_toInt_le, ← Int32.toInt_inj, Int32.reduceToInt] at *); omega) | ((try have ez0 : ((u.1 9) - 1 : Int32).toInt = (u.1 9 : Int32).toInt - (1 : Int32).toInt := g_sub (by (try simp only [g_m1, Int32.lt_iff_toInt_lt, Int32.le_iff_toInt_le, ← Int32.toInt_inj, Int32.reduceToInt] at *); omega) (by (try simp only [g_m1, Int32.lt_iff_toInt_lt, Int32.le_iff_toInt_le, ← Int32.toInt_inj, Int32.reduceToInt] at *); omega)); (try simp only [g_m1, Int32.lt_iff_toInt_lt, Int32.le_iff_toInt_le, ← Int32.toInt_inj, Int32.reduceToInt] at *); omega) | ((try simp only [g_m1, Int32.lt_iff_toInt_lt, Int32.le_iff_toInt_le, ← Int32.toInt_inj, Int32.toInt_add, Int32.toInt_sub, Int32.toInt_mul, Int32.toInt_neg, Int32.reduceToInt, g_bm, g_bm'] at *); omega) | (have qr1 := g_rng x; (try simp only [g_m1, Int32.lt_iff_toInt_lt, Int32.le_iff_toInt_le, ← Int32.toInt_inj, Int32.toInt_add, Int32.toInt_sub, Int32.toInt_mul, Int32.toInt_neg, Int32.reduceToInt, g_bm, g_bm'] at *); omega) | (simp only [g_m1, Int32.lt_iff_toInt_lt, Int32.le_iff_toInt_le, ← Int32.toInt_inj, Int32.toInt_add, Int32.toInt_sub, Int32.toInt_mul, Int32.toInt_neg, Int32.reduceToInt, g_bm, g_bm'] at *; simp at *; omega) | (simp_all; done)
set_option maxHeartbeats 1000000 in
set_option maxRecDepth 100000 in
theorem g_X0_hasBuyer (l : Launch) (E : qE) (A : Nat → Prop) (u : qS) (x : Int32) (hI : IC E u) : Met l yX0_hasBuyer (uws yX0_hasBuyer cX0_hasBuyer 2 (some .boolean)) (qR 1 0 0) (qPc E A 0 u [.ref (E.2.2 99), .int x]) (qQi E A 0 (fun r u1 => u1 = u ∧ ((r = 1 ∧ (0 ≤ x ∧ x < u.1 9)) ∨ (r = 0 ∧ ¬ (0 ≤ x ∧ x < u.1 9))))) 0 0 A := by
  refine q_met (own := RX0) (f := 1) [.ref (E.2.2 99), .int x] (by decide) (Nat.le_of_ble_eq_true rfl) rfl ?_
  intro p0 e0 s0 m0 bl0 me0 cd0 ls hF hr hlocks hU hS hA hl
  have hl : lv_has ls 2 [(0, .ref (E.2.2 99)), (1, .int x)] := hl
  have hz8 : 0 ≤ u.1 8 ∧ u.1 8 ≤ 20 := hI.1.s8
  have hz9 : 0 ≤ u.1 9 ∧ u.1 9 ≤ 8 := hI.1.s9
  have hz10 : 0 ≤ u.1 10 ∧ u.1 10 ≤ 120 := hI.1.s10
  have hz12 : 0 ≤ u.1 12 ∧ u.1 12 ≤ 16 := hI.1.s12
  refine lv_iload_n hF.1 hF.2.1 dX0_hasBuyer_0 rfl (lv_at hl 1 rfl) ?_
  refine lv_iconst (v := 0) hF.1 hF.2.1 dX0_hasBuyer_1 (by decide) ?_
  refine lv_aload_n hF.1 hF.2.1 dX0_hasBuyer_2 rfl (lv_at hl 0 rfl) ?_
  refine q_get (v := .int (u.1 9)) hF hU dX0_hasBuyer_3 1 0 9 9 99 rfl rfl rfl rfl inX0 (by decide) (by decide) w_166 rfl rfl ?_
  refine lv_iconst (v := 1) hF.1 hF.2.1 dX0_hasBuyer_6 (by decide) ?_
  refine lv_isub hF.1 hF.2.1 dX0_hasBuyer_7 ?_
  have hM9 := g_X11_isWithin l E A u x 0 ((u.1 9) - 1)
  have hR9 := q_runSN (l := l) (e := e0) (below := bl0) (meth := me0) (R := qR 1 0 0) (cells := 0) (slots := 0) (st0 := [.int ((u.1 9) - 1), .int 0, .int x]) (rest := []) (host := "SecretBuyers") hF hU hS hA 3 hM9 hU.2.2.2.n567 w_469 w_99 w_470 (by decide +kernel) ⟨Nat.le_of_ble_eq_true rfl, Nat.le_of_ble_eq_true rfl⟩ dX0_hasBuyer_8 rfl hl.1 rfl (Nat.le_of_ble_eq_true rfl) ⟨Nat.le_of_ble_eq_true rfl, Nat.le_of_ble_eq_true rfl⟩
  refine q_calli hR9 hU.2.2.2 hS (fun r_3 u_1 H locs hw_2 hU hS => ?_)
  obtain ⟨hw_2_e, hw_2⟩ := hw_2
  rw [hw_2_e] at hU
  have hw_2 : (r_3 = 1 ∧ ((0 : Int32) ≤ x ∧ x ≤ ((u.1 9) - 1))) ∨ (r_3 = 0 ∧ (¬ ((0 : Int32) ≤ x ∧ x ≤ ((u.1 9) - 1)))) := hw_2
  rcases hw_2 with ⟨rfl, b8_4⟩ | ⟨rfl, b8_4⟩
  · exact q_iret hF hr (by decide) hlocks hU hS dX0_hasBuyer_11 ⟨rfl, (g_X0_hasBuyer_v0 u x hz8 hz9 hz10 hz12 b8_4)⟩
  · exact q_iret hF hr (by decide) hlocks hU hS dX0_hasBuyer_11 ⟨rfl, (g_X0_hasBuyer_v1 u x hz8 hz9 hz10 hz12 b8_4)⟩
set_option maxRecDepth 100000 in
theorem g_X0_seenDay_v0 (u : qS) (c5_1 : ¬ (u.1 14 : Int32) = (-1)) : (u.1 14 : Int32) = c_sd u := by
  unfold c_sd; first | rw [if_pos (by assumption)] | rw [if_neg (by assumption)]
set_option maxRecDepth 100000 in
theorem g_X0_seenDay_v1 (u : qS) (c5_1 : (u.1 14 : Int32) = (-1)) : (u.1 13 : Int32) = c_sd u := by
  unfold c_sd; first | rw [if_pos (by assumption)] | rw [if_neg (by assumption)]
set_option maxHeartbeats 1000000 in
set_option maxRecDepth 100000 in
theorem g_X0_seenDay (l : Launch) (E : qE) (A : Nat → Prop) (u : qS) : Met l yX0_seenDay (uws yX0_seenDay cX0_seenDay 1 (some .int)) (qR 0 0 0) (qPc E A 0 u [.ref (E.2.2 99)]) (qQi E A 0 (fun r u1 => u1 = u ∧ (r = c_sd u))) 0 0 A := by
  refine q_met (own := RX0) (f := 0) [.ref (E.2.2 99)] (by decide) (Nat.le_of_ble_eq_true rfl) rfl ?_
  intro p0 e0 s0 m0 bl0 me0 cd0 ls hF hr hlocks hU hS hA hl
  have hl : lv_has ls 1 [(0, .ref (E.2.2 99))] := hl
  refine lv_aload_n hF.1 hF.2.1 dX0_seenDay_0 rfl (lv_at hl 0 rfl) ?_
  refine q_get (v := .int (u.1 14)) hF hU dX0_seenDay_1 1 0 14 14 99 rfl rfl rfl rfl inX0 (by decide) (by decide) w_180 rfl rfl ?_
  refine lv_iconst (v := (-1)) hF.1 hF.2.1 dX0_seenDay_4 (by decide) ?_
  refine lv_icmp_ne (tgt := 15) hF.1 hF.2.1 dX0_seenDay_5 (by decide) (fun c5_1 => ?_) (fun c5_1 => ?_)
  · refine lv_aload_n hF.1 hF.2.1 dX0_seenDay_15 rfl (lv_at hl 0 rfl) ?_
    refine q_get (v := .int (u.1 14)) hF hU dX0_seenDay_16 1 0 14 14 99 rfl rfl rfl rfl inX0 (by decide) (by decide) w_180 rfl rfl ?_
    exact q_iret hF hr rfl hlocks hU hS dX0_seenDay_19 ⟨rfl, (g_X0_seenDay_v0 u c5_1)⟩
  · refine lv_aload_n hF.1 hF.2.1 dX0_seenDay_8 rfl (lv_at hl 0 rfl) ?_
    refine q_get (v := .int (u.1 13)) hF hU dX0_seenDay_9 1 0 13 13 99 rfl rfl rfl rfl inX0 (by decide) (by decide) w_179 rfl rfl ?_
    refine lv_goto (tgt := 19) hF.1 hF.2.1 dX0_seenDay_12 (by decide) ?_
    exact q_iret hF hr rfl hlocks hU hS dX0_seenDay_19 ⟨rfl, (g_X0_seenDay_v1 u c5_1)⟩
set_option maxRecDepth 100000 in
theorem g_X0_isSeen_v0 (u : qS) (v : Nat) (r_8 : Int32) (hz8 : 0 ≤ u.1 8 ∧ u.1 8 ≤ 20) (hz9 : 0 ≤ u.1 9 ∧ u.1 9 ≤ 8) (hz10 : 0 ≤ u.1 10 ∧ u.1 10 ≤ 120) (hz12 : 0 ≤ u.1 12 ∧ u.1 12 ≤ 16) (hw_7 : r_8 = c_sd u) (c8_9 : r_8 < (qfd u.2.2.2.2 v 1 : Int32)) : (0 = (1 : Int32) ∧ (qfd u.2.2.2.2 v 1 ≤ c_sd u)) ∨ (0 = (0 : Int32) ∧ ¬ (qfd u.2.2.2.2 v 1 ≤ c_sd u)) := by
  have q := (by assumption : _ = c_sd u)
  rw [← q]; first | exact Or.inl ⟨rfl, Int32.not_lt.mp (by assumption)⟩ | exact Or.inr ⟨rfl, Int32.not_le.mpr (by assumption)⟩
set_option maxRecDepth 100000 in
theorem g_X0_isSeen_v1 (u : qS) (v : Nat) (r_8 : Int32) (hz8 : 0 ≤ u.1 8 ∧ u.1 8 ≤ 20) (hz9 : 0 ≤ u.1 9 ∧ u.1 9 ≤ 8) (hz10 : 0 ≤ u.1 10 ∧ u.1 10 ≤ 120) (hz12 : 0 ≤ u.1 12 ∧ u.1 12 ≤ 16) (hw_7 : r_8 = c_sd u) (c8_9 : ¬ r_8 < (qfd u.2.2.2.2 v 1 : Int32)) : (1 = (1 : Int32) ∧ (qfd u.2.2.2.2 v 1 ≤ c_sd u)) ∨ (1 = (0 : Int32) ∧ ¬ (qfd u.2.2.2.2 v 1 ≤ c_sd u)) := by
  have q := (by assumption : _ = c_sd u)
  rw [← q]; first | exact Or.inl ⟨rfl, Int32.not_lt.mp (by assumption)⟩ | exact Or.inr ⟨rfl, Int32.not_le.mpr (by assumption)⟩
set_option maxHeartbeats 1000000 in
set_option maxRecDepth 100000 in
theorem g_X0_isSeen (l : Launch) (E : qE) (A : Nat → Prop) (u : qS) (v : Nat) (hI : IC E u) (hv : qRf u v 10) : Met l yX0_isSeen (uws yX0_isSeen cX0_isSeen 2 (some .boolean)) (qR 1 0 0) (qPc E A 0 u [.ref (E.2.2 99), .ref v]) (qQi E A 0 (fun r u1 => u1 = u ∧ ((r = 1 ∧ (qfd u.2.2.2.2 v 1 ≤ c_sd u)) ∨ (r = 0 ∧ ¬ (qfd u.2.2.2.2 v 1 ≤ c_sd u))))) 0 0 A := by
  refine q_met (own := RX0) (f := 1) [.ref (E.2.2 99), .ref v] (by decide) (Nat.le_of_ble_eq_true rfl) rfl ?_
  intro p0 e0 s0 m0 bl0 me0 cd0 ls hF hr hlocks hU hS hA hl
  have hl : lv_has ls 2 [(0, .ref (E.2.2 99)), (1, .ref v)] := hl
  have hz8 : 0 ≤ u.1 8 ∧ u.1 8 ≤ 20 := hI.1.s8
  have hz9 : 0 ≤ u.1 9 ∧ u.1 9 ≤ 8 := hI.1.s9
  have hz10 : 0 ≤ u.1 10 ∧ u.1 10 ≤ 120 := hI.1.s10
  have hz12 : 0 ≤ u.1 12 ∧ u.1 12 ≤ 16 := hI.1.s12
  refine lv_aload_n hF.1 hF.2.1 dX0_isSeen_0 rfl (lv_at hl 1 rfl) ?_
  obtain ⟨k_1, fs_2, hd_4, hv_5, hv_5_2, hv_5_3, -⟩ := hI.vf hv 1 (by decide)
  refine q_getd (v := .int (qfd u.2.2.2.2 v 1)) hF hU dX0_isSeen_1 k_1 10 1 hd_4 rfl inX10 (by decide) w_587 rfl hv_5 ?_
  refine lv_aload_n hF.1 hF.2.1 dX0_isSeen_4 rfl (lv_at hl 0 rfl) ?_
  have hM9 := g_X0_seenDay l E A u 
  have hR9 := q_runV (l := l) (e := e0) (below := bl0) (meth := me0) (R := qR 1 0 0) (cells := 0) (slots := 0) (st0 := [.ref (E.2.2 99), .int (qfd u.2.2.2.2 v 1)]) (rest := [.int (qfd u.2.2.2.2 v 1)]) hF hU hS hA 0 1 0 99 rfl rfl rfl hM9 w_483 w_484 w_485 w_100 w_486 (by decide +kernel) ⟨Nat.le_of_ble_eq_true rfl, Nat.le_of_ble_eq_true rfl⟩ dX0_isSeen_5 rfl hl.1 rfl (Nat.le_of_ble_eq_true rfl) ⟨Nat.le_of_ble_eq_true rfl, Nat.le_of_ble_eq_true rfl⟩
  refine q_calli hR9 hU.2.2.2 hS (fun r_8 u_6 H locs hw_7 hU hS => ?_)
  obtain ⟨hw_7_e, hw_7⟩ := hw_7
  rw [hw_7_e] at hU
  have hw_7 : r_8 = c_sd u := hw_7
  refine lv_icmp_gt (tgt := 15) hF.1 hF.2.1 dX0_isSeen_8 (by decide) (fun c8_9 => ?_) (fun c8_9 => ?_)
  · refine lv_iconst (v := 0) hF.1 hF.2.1 dX0_isSeen_15 (by decide) ?_
    exact q_iret hF hr (by decide) hlocks hU hS dX0_isSeen_16 ⟨rfl, (g_X0_isSeen_v0 u v r_8 hz8 hz9 hz10 hz12 hw_7 c8_9)⟩
  · refine lv_iconst (v := 1) hF.1 hF.2.1 dX0_isSeen_11 (by decide) ?_
    refine lv_goto (tgt := 16) hF.1 hF.2.1 dX0_isSeen_12 (by decide) ?_
    exact q_iret hF hr (by decide) hlocks hU hS dX0_isSeen_16 ⟨rfl, (g_X0_isSeen_v1 u v r_8 hz8 hz9 hz10 hz12 hw_7 c8_9)⟩
set_option maxRecDepth 100000 in
theorem g_X0_isKnown_v0 (u : qS) (x : Int32) (hz8 : 0 ≤ u.1 8 ∧ u.1 8 ≤ 20) (hz9 : 0 ≤ u.1 9 ∧ u.1 9 ≤ 8) (hz10 : 0 ≤ u.1 10 ∧ u.1 10 ≤ 120) (hz12 : 0 ≤ u.1 12 ∧ u.1 12 ≤ 16) (b8_4 : (0 : Int32) ≤ x ∧ x ≤ ((u.1 10) - 1)) : 0 ≤ x ∧ x < (u.1 10) := by
  first | omega | ((try simp only [g_m1, Int32.lt_iff_toInt_lt, Int32.le_iff_toInt_le, ← Int32.toInt_inj, Int32.reduceToInt] at *); omega) | ((try have ez0 : ((u.1 10) - 1 : Int32).toInt = (u.1 10 : Int32).toInt - (1 : Int32).toInt := g_sub (by (try simp only [g_m1, Int32.lt_iff_toInt_lt, Int32.le_iff_toInt_le, ← Int32.toInt_inj, Int32.reduceToInt] at *); omega) (by (try simp only [g_m1, Int32.lt_iff_toInt_lt, Int32.le_iff_toInt_le, ← Int32.toInt_inj, Int32.reduceToInt] at *); omega)); (try simp only [g_m1, Int32.lt_iff_toInt_lt, Int32.le_iff_toInt_le, ← Int32.toInt_inj, Int32.reduceToInt] at *); omega) | ((try simp only [g_m1, Int32.lt_iff_toInt_lt, Int32.le_iff_toInt_le, ← Int32.toInt_inj, Int32.toInt_add, Int32.toInt_sub, Int32.toInt_mul, Int32.toInt_neg, Int32.reduceToInt, g_bm, g_bm'] at *); omega) | (have qr1 := g_rng x; (try simp only [g_m1, Int32.lt_iff_toInt_lt, Int32.le_iff_toInt_le, ← Int32.toInt_inj, Int32.toInt_add, Int32.toInt_sub, Int32.toInt_mul, Int32.toInt_neg, Int32.reduceToInt, g_bm, g_bm'] at *); omega) | (simp only [g_m1, Int32.lt_iff_toInt_lt, Int32.le_iff_toInt_le, ← Int32.toInt_inj, Int32.toInt_add, Int32.toInt_sub, Int32.toInt_mul, Int32.toInt_neg, Int32.reduceToInt, g_bm, g_bm'] at *; simp at *; omega) | (simp_all; done)
set_option maxRecDepth 100000 in
theorem g_X0_isKnown_v1 (u : qS) (x : Int32) (hz8 : 0 ≤ u.1 8 ∧ u.1 8 ≤ 20) (hz9 : 0 ≤ u.1 9 ∧ u.1 9 ≤ 8) (hz10 : 0 ≤ u.1 10 ∧ u.1 10 ≤ 120) (hz12 : 0 ≤ u.1 12 ∧ u.1 12 ≤ 16) (b8_4 : (0 : Int32) ≤ x ∧ x ≤ ((u.1 10) - 1)) : vp_in (x) 120 := by
  refine g_in ?_ ?_ <;> ((try simp only [g_m1, Int32.lt_iff_toInt_lt, Int32.le_iff_toInt_le, ← Int32.toInt_inj, Int32.toInt_add, Int32.toInt_sub, Int32.toInt_mul, Int32.toInt_neg, Int32.reduceToInt, g_bm, g_bm'] at *); omega)
set_option maxRecDepth 100000 in
theorem g_X0_isKnown_v2 (u : qS) (x : Int32) (a_5 : Nat) (hz8 : 0 ≤ u.1 8 ∧ u.1 8 ≤ 20) (hz9 : 0 ≤ u.1 9 ∧ u.1 9 ≤ 8) (hz10 : 0 ≤ u.1 10 ∧ u.1 10 ≤ 120) (hz12 : 0 ≤ u.1 12 ∧ u.1 12 ≤ 16) (b8_4 : (0 : Int32) ≤ x ∧ x ≤ ((u.1 10) - 1)) (b21_10 : qfd u.2.2.2.2 a_5 1 ≤ c_sd u) : (1 = (1 : Int32) ∧ (0 ≤ x ∧ x < u.1 10)) ∨ (1 = (0 : Int32) ∧ (True)) := by
  first | omega | ((try simp only [g_m1, Int32.lt_iff_toInt_lt, Int32.le_iff_toInt_le, ← Int32.toInt_inj, Int32.reduceToInt] at *); omega) | ((try have ez0 : ((u.1 10) - 1 : Int32).toInt = (u.1 10 : Int32).toInt - (1 : Int32).toInt := g_sub (by (try simp only [g_m1, Int32.lt_iff_toInt_lt, Int32.le_iff_toInt_le, ← Int32.toInt_inj, Int32.reduceToInt] at *); omega) (by (try simp only [g_m1, Int32.lt_iff_toInt_lt, Int32.le_iff_toInt_le, ← Int32.toInt_inj, Int32.reduceToInt] at *); omega)); (try simp only [g_m1, Int32.lt_iff_toInt_lt, Int32.le_iff_toInt_le, ← Int32.toInt_inj, Int32.reduceToInt] at *); omega) | ((try simp only [g_m1, Int32.lt_iff_toInt_lt, Int32.le_iff_toInt_le, ← Int32.toInt_inj, Int32.toInt_add, Int32.toInt_sub, Int32.toInt_mul, Int32.toInt_neg, Int32.reduceToInt, g_bm, g_bm'] at *); omega) | (have qr1 := g_rng x; (try simp only [g_m1, Int32.lt_iff_toInt_lt, Int32.le_iff_toInt_le, ← Int32.toInt_inj, Int32.toInt_add, Int32.toInt_sub, Int32.toInt_mul, Int32.toInt_neg, Int32.reduceToInt, g_bm, g_bm'] at *); omega) | (simp only [g_m1, Int32.lt_iff_toInt_lt, Int32.le_iff_toInt_le, ← Int32.toInt_inj, Int32.toInt_add, Int32.toInt_sub, Int32.toInt_mul, Int32.toInt_neg, Int32.reduceToInt, g_bm, g_bm'] at *; simp at *; omega) | (simp_all; done)
set_option maxRecDepth 100000 in
theorem g_X0_isKnown_v3 (u : qS) (x : Int32) (a_5 : Nat) (hz8 : 0 ≤ u.1 8 ∧ u.1 8 ≤ 20) (hz9 : 0 ≤ u.1 9 ∧ u.1 9 ≤ 8) (hz10 : 0 ≤ u.1 10 ∧ u.1 10 ≤ 120) (hz12 : 0 ≤ u.1 12 ∧ u.1 12 ≤ 16) (b8_4 : (0 : Int32) ≤ x ∧ x ≤ ((u.1 10) - 1)) (b21_10 : ¬ (qfd u.2.2.2.2 a_5 1 ≤ c_sd u)) : (0 = (1 : Int32) ∧ (0 ≤ x ∧ x < u.1 10)) ∨ (0 = (0 : Int32) ∧ (True)) := by
  first | omega | ((try simp only [g_m1, Int32.lt_iff_toInt_lt, Int32.le_iff_toInt_le, ← Int32.toInt_inj, Int32.reduceToInt] at *); omega) | ((try have ez0 : ((u.1 10) - 1 : Int32).toInt = (u.1 10 : Int32).toInt - (1 : Int32).toInt := g_sub (by (try simp only [g_m1, Int32.lt_iff_toInt_lt, Int32.le_iff_toInt_le, ← Int32.toInt_inj, Int32.reduceToInt] at *); omega) (by (try simp only [g_m1, Int32.lt_iff_toInt_lt, Int32.le_iff_toInt_le, ← Int32.toInt_inj, Int32.reduceToInt] at *); omega)); (try simp only [g_m1, Int32.lt_iff_toInt_lt, Int32.le_iff_toInt_le, ← Int32.toInt_inj, Int32.reduceToInt] at *); omega) | ((try simp only [g_m1, Int32.lt_iff_toInt_lt, Int32.le_iff_toInt_le, ← Int32.toInt_inj, Int32.toInt_add, Int32.toInt_sub, Int32.toInt_mul, Int32.toInt_neg, Int32.reduceToInt, g_bm, g_bm'] at *); omega) | (have qr1 := g_rng x; (try simp only [g_m1, Int32.lt_iff_toInt_lt, Int32.le_iff_toInt_le, ← Int32.toInt_inj, Int32.toInt_add, Int32.toInt_sub, Int32.toInt_mul, Int32.toInt_neg, Int32.reduceToInt, g_bm, g_bm'] at *); omega) | (simp only [g_m1, Int32.lt_iff_toInt_lt, Int32.le_iff_toInt_le, ← Int32.toInt_inj, Int32.toInt_add, Int32.toInt_sub, Int32.toInt_mul, Int32.toInt_neg, Int32.reduceToInt, g_bm, g_bm'] at *; simp at *; omega) | (simp_all; done)
set_option maxRecDepth 100000 in
theorem g_X0_isKnown_v4 (u : qS) (x : Int32) (hz8 : 0 ≤ u.1 8 ∧ u.1 8 ≤ 20) (hz9 : 0 ≤ u.1 9 ∧ u.1 9 ≤ 8) (hz10 : 0 ≤ u.1 10 ∧ u.1 10 ≤ 120) (hz12 : 0 ≤ u.1 12 ∧ u.1 12 ≤ 16) (b8_4 : ¬ ((0 : Int32) ≤ x ∧ x ≤ ((u.1 10) - 1))) : (0 = (1 : Int32) ∧ (0 ≤ x ∧ x < u.1 10)) ∨ (0 = (0 : Int32) ∧ (True)) := by
  first | omega | ((try simp only [g_m1, Int32.lt_iff_toInt_lt, Int32.le_iff_toInt_le, ← Int32.toInt_inj, Int32.reduceToInt] at *); omega) | ((try have ez0 : ((u.1 10) - 1 : Int32).toInt = (u.1 10 : Int32).toInt - (1 : Int32).toInt := g_sub (by (try simp only [g_m1, Int32.lt_iff_toInt_lt, Int32.le_iff_toInt_le, ← Int32.toInt_inj, Int32.reduceToInt] at *); omega) (by (try simp only [g_m1, Int32.lt_iff_toInt_lt, Int32.le_iff_toInt_le, ← Int32.toInt_inj, Int32.reduceToInt] at *); omega)); (try simp only [g_m1, Int32.lt_iff_toInt_lt, Int32.le_iff_toInt_le, ← Int32.toInt_inj, Int32.reduceToInt] at *); omega) | ((try simp only [g_m1, Int32.lt_iff_toInt_lt, Int32.le_iff_toInt_le, ← Int32.toInt_inj, Int32.toInt_add, Int32.toInt_sub, Int32.toInt_mul, Int32.toInt_neg, Int32.reduceToInt, g_bm, g_bm'] at *); omega) | (have qr1 := g_rng x; (try simp only [g_m1, Int32.lt_iff_toInt_lt, Int32.le_iff_toInt_le, ← Int32.toInt_inj, Int32.toInt_add, Int32.toInt_sub, Int32.toInt_mul, Int32.toInt_neg, Int32.reduceToInt, g_bm, g_bm'] at *); omega) | (simp only [g_m1, Int32.lt_iff_toInt_lt, Int32.le_iff_toInt_le, ← Int32.toInt_inj, Int32.toInt_add, Int32.toInt_sub, Int32.toInt_mul, Int32.toInt_neg, Int32.reduceToInt, g_bm, g_bm'] at *; simp at *; omega) | (simp_all; done)
set_option maxHeartbeats 1000000 in
set_option maxRecDepth 100000 in
theorem g_X0_isKnown (l : Launch) (E : qE) (A : Nat → Prop) (u : qS) (x : Int32) (hI : IC E u) : Met l yX0_isKnown (uws yX0_isKnown cX0_isKnown 2 (some .boolean)) (qR 2 0 0) (qPc E A 0 u [.ref (E.2.2 99), .int x]) (qQi E A 0 (fun r u1 => u1 = u ∧ ((r = 1 ∧ (0 ≤ x ∧ x < u.1 10)) ∨ (r = 0 ∧ (True))))) 0 0 A := by
  refine q_met (own := RX0) (f := 2) [.ref (E.2.2 99), .int x] (by decide) (Nat.le_of_ble_eq_true rfl) rfl ?_
  intro p0 e0 s0 m0 bl0 me0 cd0 ls hF hr hlocks hU hS hA hl
  have hl : lv_has ls 2 [(0, .ref (E.2.2 99)), (1, .int x)] := hl
  have hz8 : 0 ≤ u.1 8 ∧ u.1 8 ≤ 20 := hI.1.s8
  have hz9 : 0 ≤ u.1 9 ∧ u.1 9 ≤ 8 := hI.1.s9
  have hz10 : 0 ≤ u.1 10 ∧ u.1 10 ≤ 120 := hI.1.s10
  have hz12 : 0 ≤ u.1 12 ∧ u.1 12 ≤ 16 := hI.1.s12
  refine lv_iload_n hF.1 hF.2.1 dX0_isKnown_0 rfl (lv_at hl 1 rfl) ?_
  refine lv_iconst (v := 0) hF.1 hF.2.1 dX0_isKnown_1 (by decide) ?_
  refine lv_aload_n hF.1 hF.2.1 dX0_isKnown_2 rfl (lv_at hl 0 rfl) ?_
  refine q_get (v := .int (u.1 10)) hF hU dX0_isKnown_3 1 0 10 10 99 rfl rfl rfl rfl inX0 (by decide) (by decide) w_171 rfl rfl ?_
  refine lv_iconst (v := 1) hF.1 hF.2.1 dX0_isKnown_6 (by decide) ?_
  refine lv_isub hF.1 hF.2.1 dX0_isKnown_7 ?_
  have hM9 := g_X11_isWithin l E A u x 0 ((u.1 10) - 1)
  have hR9 := q_runSN (l := l) (e := e0) (below := bl0) (meth := me0) (R := qR 2 0 0) (cells := 0) (slots := 0) (st0 := [.int ((u.1 10) - 1), .int 0, .int x]) (rest := []) (host := "SecretBuyers") hF hU hS hA 3 hM9 hU.2.2.2.n567 w_469 w_99 w_470 (by decide +kernel) ⟨Nat.le_of_ble_eq_true rfl, Nat.le_of_ble_eq_true rfl⟩ dX0_isKnown_8 rfl hl.1 rfl (Nat.le_of_ble_eq_true rfl) ⟨Nat.le_of_ble_eq_true rfl, Nat.le_of_ble_eq_true rfl⟩
  refine q_calli hR9 hU.2.2.2 hS (fun r_3 u_1 H locs hw_2 hU hS => ?_)
  obtain ⟨hw_2_e, hw_2⟩ := hw_2
  rw [hw_2_e] at hU
  have hw_2 : (r_3 = 1 ∧ ((0 : Int32) ≤ x ∧ x ≤ ((u.1 10) - 1))) ∨ (r_3 = 0 ∧ (¬ ((0 : Int32) ≤ x ∧ x ≤ ((u.1 10) - 1)))) := hw_2
  rcases hw_2 with ⟨rfl, b8_4⟩ | ⟨rfl, b8_4⟩
  · refine lv_if_eq (tgt := 31) hF.1 hF.2.1 dX0_isKnown_11 (by decide) (fun h9 => absurd h9 (by decide)) (fun _ => ?_)
    refine lv_aload_n hF.1 hF.2.1 dX0_isKnown_14 rfl (lv_at hl 0 rfl) ?_
    refine lv_aload_n hF.1 hF.2.1 dX0_isKnown_15 rfl (lv_at hl 0 rfl) ?_
    refine q_get (v := .ref (E.2.2 2)) hF hU dX0_isKnown_16 1 0 2 2 99 rfl rfl rfl rfl inX0 (by decide) (by decide) w_148 rfl rfl ?_
    refine lv_iload_n hF.1 hF.2.1 dX0_isKnown_19 rfl (lv_at hl 1 rfl) ?_
    obtain ⟨a_5, ha_5_6_e, ha_5_6⟩ := hI.r2 x (g_X0_isKnown_v0 u x hz8 hz9 hz10 hz12 b8_4)
    refine q_aald (v := .ref a_5) hF hU dX0_isKnown_20 2 2 6 rfl rfl (by decide) rfl (g_X0_isKnown_v1 u x hz8 hz9 hz10 hz12 b8_4) (by rw [ha_5_6_e]; rfl) ?_
    have hM9 := g_X0_isSeen l E A u a_5 hI ((ha_5_6).rf)
    have hR9 := q_runV (l := l) (e := e0) (below := bl0) (meth := me0) (R := qR 2 0 0) (cells := 0) (slots := 0) (st0 := [.ref a_5, .ref (E.2.2 99)]) (rest := []) hF hU hS hA 1 1 0 99 rfl rfl rfl hM9 w_906 w_861 w_862 w_100 w_863 (by decide +kernel) ⟨Nat.le_of_ble_eq_true rfl, Nat.le_of_ble_eq_true rfl⟩ dX0_isKnown_21 rfl hl.1 rfl (Nat.le_of_ble_eq_true rfl) ⟨Nat.le_of_ble_eq_true rfl, Nat.le_of_ble_eq_true rfl⟩
    refine q_calli hR9 hU.2.2.2 hS (fun r_9 u_7 H locs hw_8 hU hS => ?_)
    obtain ⟨hw_8_e, hw_8⟩ := hw_8
    rw [hw_8_e] at hU
    have hw_8 : (r_9 = 1 ∧ (qfd u.2.2.2.2 a_5 1 ≤ c_sd u)) ∨ (r_9 = 0 ∧ (¬ (qfd u.2.2.2.2 a_5 1 ≤ c_sd u))) := hw_8
    rcases hw_8 with ⟨rfl, b21_10⟩ | ⟨rfl, b21_10⟩
    · refine lv_if_eq (tgt := 31) hF.1 hF.2.1 dX0_isKnown_24 (by decide) (fun h9 => absurd h9 (by decide)) (fun _ => ?_)
      refine lv_iconst (v := 1) hF.1 hF.2.1 dX0_isKnown_27 (by decide) ?_
      refine lv_goto (tgt := 32) hF.1 hF.2.1 dX0_isKnown_28 (by decide) ?_
      exact q_iret hF hr (by decide) hlocks hU hS dX0_isKnown_32 ⟨rfl, (g_X0_isKnown_v2 u x a_5 hz8 hz9 hz10 hz12 b8_4 b21_10)⟩
    · refine lv_if_eq (tgt := 31) hF.1 hF.2.1 dX0_isKnown_24 (by decide) (fun _ => ?_) (fun h9 => absurd (by decide) h9)
      refine lv_iconst (v := 0) hF.1 hF.2.1 dX0_isKnown_31 (by decide) ?_
      exact q_iret hF hr (by decide) hlocks hU hS dX0_isKnown_32 ⟨rfl, (g_X0_isKnown_v3 u x a_5 hz8 hz9 hz10 hz12 b8_4 b21_10)⟩
  · refine lv_if_eq (tgt := 31) hF.1 hF.2.1 dX0_isKnown_11 (by decide) (fun _ => ?_) (fun h9 => absurd (by decide) h9)
    refine lv_iconst (v := 0) hF.1 hF.2.1 dX0_isKnown_31 (by decide) ?_
    exact q_iret hF hr (by decide) hlocks hU hS dX0_isKnown_32 ⟨rfl, (g_X0_isKnown_v4 u x hz8 hz9 hz10 hz12 b8_4)⟩
set_option maxRecDepth 100000 in
theorem g_X0_knownVisits_v0 (u : qS) (x1 : Int32) (hz8 : 0 ≤ u.1 8 ∧ u.1 8 ≤ 20) (hz9 : 0 ≤ u.1 9 ∧ u.1 9 ≤ 8) (hz10 : 0 ≤ u.1 10 ∧ u.1 10 ≤ 120) (hz12 : 0 ≤ u.1 12 ∧ u.1 12 ≤ 16) (h_k : 0 ≤ x1 ∧ x1 ≤ u.1 10) (c6_1 : (x1 : Int32) ≤ 0) : 0 ≤ (x1 : Int32) ∧ (x1 : Int32) ≤ u.1 10 := by
  first | omega | ((try simp only [g_m1, Int32.lt_iff_toInt_lt, Int32.le_iff_toInt_le, ← Int32.toInt_inj, Int32.reduceToInt] at *); omega) | ((try simp only [g_m1, Int32.lt_iff_toInt_lt, Int32.le_iff_toInt_le, ← Int32.toInt_inj, Int32.reduceToInt] at *); omega) | ((try simp only [g_m1, Int32.lt_iff_toInt_lt, Int32.le_iff_toInt_le, ← Int32.toInt_inj, Int32.toInt_add, Int32.toInt_sub, Int32.toInt_mul, Int32.toInt_neg, Int32.reduceToInt, g_bm, g_bm'] at *); omega) | (have qr1 := g_rng x1; (try simp only [g_m1, Int32.lt_iff_toInt_lt, Int32.le_iff_toInt_le, ← Int32.toInt_inj, Int32.toInt_add, Int32.toInt_sub, Int32.toInt_mul, Int32.toInt_neg, Int32.reduceToInt, g_bm, g_bm'] at *); omega) | (simp only [g_m1, Int32.lt_iff_toInt_lt, Int32.le_iff_toInt_le, ← Int32.toInt_inj, Int32.toInt_add, Int32.toInt_sub, Int32.toInt_mul, Int32.toInt_neg, Int32.reduceToInt, g_bm, g_bm'] at *; simp at *; omega) | (simp_all; done)
set_option maxRecDepth 100000 in
theorem g_X0_knownVisits_v1 (u : qS) (x1 : Int32) (hz8 : 0 ≤ u.1 8 ∧ u.1 8 ≤ 20) (hz9 : 0 ≤ u.1 9 ∧ u.1 9 ≤ 8) (hz10 : 0 ≤ u.1 10 ∧ u.1 10 ≤ 120) (hz12 : 0 ≤ u.1 12 ∧ u.1 12 ≤ 16) (h_k : 0 ≤ x1 ∧ x1 ≤ u.1 10) (c6_1 : ¬ (x1 : Int32) ≤ 0) : 0 ≤ (x1 - 1) ∧ (x1 - 1) < (u.1 10) := by
  first | omega | ((try simp only [g_m1, Int32.lt_iff_toInt_lt, Int32.le_iff_toInt_le, ← Int32.toInt_inj, Int32.reduceToInt] at *); omega) | ((try have ez0 : (x1 - 1 : Int32).toInt = (x1 : Int32).toInt - (1 : Int32).toInt := g_sub (by (try simp only [g_m1, Int32.lt_iff_toInt_lt, Int32.le_iff_toInt_le, ← Int32.toInt_inj, Int32.reduceToInt] at *); omega) (by (try simp only [g_m1, Int32.lt_iff_toInt_lt, Int32.le_iff_toInt_le, ← Int32.toInt_inj, Int32.reduceToInt] at *); omega)); (try simp only [g_m1, Int32.lt_iff_toInt_lt, Int32.le_iff_toInt_le, ← Int32.toInt_inj, Int32.reduceToInt] at *); omega) | ((try simp only [g_m1, Int32.lt_iff_toInt_lt, Int32.le_iff_toInt_le, ← Int32.toInt_inj, Int32.toInt_add, Int32.toInt_sub, Int32.toInt_mul, Int32.toInt_neg, Int32.reduceToInt, g_bm, g_bm'] at *); omega) | (have qr1 := g_rng x1; (try simp only [g_m1, Int32.lt_iff_toInt_lt, Int32.le_iff_toInt_le, ← Int32.toInt_inj, Int32.toInt_add, Int32.toInt_sub, Int32.toInt_mul, Int32.toInt_neg, Int32.reduceToInt, g_bm, g_bm'] at *); omega) | (simp only [g_m1, Int32.lt_iff_toInt_lt, Int32.le_iff_toInt_le, ← Int32.toInt_inj, Int32.toInt_add, Int32.toInt_sub, Int32.toInt_mul, Int32.toInt_neg, Int32.reduceToInt, g_bm, g_bm'] at *; simp at *; omega) | (simp_all; done)
set_option maxRecDepth 100000 in
theorem g_X0_knownVisits_v2 (u : qS) (x1 : Int32) (hz8 : 0 ≤ u.1 8 ∧ u.1 8 ≤ 20) (hz9 : 0 ≤ u.1 9 ∧ u.1 9 ≤ 8) (hz10 : 0 ≤ u.1 10 ∧ u.1 10 ≤ 120) (hz12 : 0 ≤ u.1 12 ∧ u.1 12 ≤ 16) (h_k : 0 ≤ x1 ∧ x1 ≤ u.1 10) (c6_1 : ¬ (x1 : Int32) ≤ 0) : vp_in (x1 - 1) 120 := by
  have ez0 : (x1 - 1 : Int32).toInt = (x1 : Int32).toInt - (1 : Int32).toInt := g_sub (by (try simp only [g_m1, Int32.lt_iff_toInt_lt, Int32.le_iff_toInt_le, ← Int32.toInt_inj, Int32.reduceToInt] at *); omega) (by (try simp only [g_m1, Int32.lt_iff_toInt_lt, Int32.le_iff_toInt_le, ← Int32.toInt_inj, Int32.reduceToInt] at *); omega)
  refine g_in ?_ ?_ <;> ((try simp only [g_m1, Int32.lt_iff_toInt_lt, Int32.le_iff_toInt_le, ← Int32.toInt_inj, Int32.reduceToInt] at *); omega)
set_option maxRecDepth 100000 in
theorem g_X0_knownVisits_v3 (u : qS) (x1 : Int32) (a_2 : Nat) (hz8 : 0 ≤ u.1 8 ∧ u.1 8 ≤ 20) (hz9 : 0 ≤ u.1 9 ∧ u.1 9 ≤ 8) (hz10 : 0 ≤ u.1 10 ∧ u.1 10 ≤ 120) (hz12 : 0 ≤ u.1 12 ∧ u.1 12 ≤ 16) (h_k : 0 ≤ x1 ∧ x1 ≤ u.1 10) (c6_1 : ¬ (x1 : Int32) ≤ 0) (b18_7 : qfd u.2.2.2.2 a_2 1 ≤ c_sd u) : 0 ≤ (x1 : Int32) ∧ (x1 : Int32) ≤ u.1 10 := by
  first | omega | ((try simp only [g_m1, Int32.lt_iff_toInt_lt, Int32.le_iff_toInt_le, ← Int32.toInt_inj, Int32.reduceToInt] at *); omega) | ((try simp only [g_m1, Int32.lt_iff_toInt_lt, Int32.le_iff_toInt_le, ← Int32.toInt_inj, Int32.reduceToInt] at *); omega) | ((try simp only [g_m1, Int32.lt_iff_toInt_lt, Int32.le_iff_toInt_le, ← Int32.toInt_inj, Int32.toInt_add, Int32.toInt_sub, Int32.toInt_mul, Int32.toInt_neg, Int32.reduceToInt, g_bm, g_bm'] at *); omega) | (have qr1 := g_rng x1; (try simp only [g_m1, Int32.lt_iff_toInt_lt, Int32.le_iff_toInt_le, ← Int32.toInt_inj, Int32.toInt_add, Int32.toInt_sub, Int32.toInt_mul, Int32.toInt_neg, Int32.reduceToInt, g_bm, g_bm'] at *); omega) | (simp only [g_m1, Int32.lt_iff_toInt_lt, Int32.le_iff_toInt_le, ← Int32.toInt_inj, Int32.toInt_add, Int32.toInt_sub, Int32.toInt_mul, Int32.toInt_neg, Int32.reduceToInt, g_bm, g_bm'] at *; simp at *; omega) | (simp_all; done)
set_option maxRecDepth 100000 in
theorem g_X0_knownVisits_v4 (u : qS) (x1 : Int32) (a_2 : Nat) (hz8 : 0 ≤ u.1 8 ∧ u.1 8 ≤ 20) (hz9 : 0 ≤ u.1 9 ∧ u.1 9 ≤ 8) (hz10 : 0 ≤ u.1 10 ∧ u.1 10 ≤ 120) (hz12 : 0 ≤ u.1 12 ∧ u.1 12 ≤ 16) (h_k : 0 ≤ x1 ∧ x1 ≤ u.1 10) (c6_1 : ¬ (x1 : Int32) ≤ 0) (b18_7 : ¬ (qfd u.2.2.2.2 a_2 1 ≤ c_sd u)) : 0 ≤ (x1 + (-1)) ∧ (x1 + (-1)) ≤ u.1 10 := by
  first | omega | ((try simp only [g_m1, Int32.lt_iff_toInt_lt, Int32.le_iff_toInt_le, ← Int32.toInt_inj, Int32.reduceToInt] at *); omega) | ((try have ez1 : (x1 + (-1) : Int32).toInt = (x1 : Int32).toInt + ((-1) : Int32).toInt := g_add (by (try simp only [g_m1, Int32.lt_iff_toInt_lt, Int32.le_iff_toInt_le, ← Int32.toInt_inj, Int32.reduceToInt] at *); omega) (by (try simp only [g_m1, Int32.lt_iff_toInt_lt, Int32.le_iff_toInt_le, ← Int32.toInt_inj, Int32.reduceToInt] at *); omega)); (try simp only [g_m1, Int32.lt_iff_toInt_lt, Int32.le_iff_toInt_le, ← Int32.toInt_inj, Int32.reduceToInt] at *); omega) | ((try simp only [g_m1, Int32.lt_iff_toInt_lt, Int32.le_iff_toInt_le, ← Int32.toInt_inj, Int32.toInt_add, Int32.toInt_sub, Int32.toInt_mul, Int32.toInt_neg, Int32.reduceToInt, g_bm, g_bm'] at *); omega) | (have qr1 := g_rng x1; (try simp only [g_m1, Int32.lt_iff_toInt_lt, Int32.le_iff_toInt_le, ← Int32.toInt_inj, Int32.toInt_add, Int32.toInt_sub, Int32.toInt_mul, Int32.toInt_neg, Int32.reduceToInt, g_bm, g_bm'] at *); omega) | (simp only [g_m1, Int32.lt_iff_toInt_lt, Int32.le_iff_toInt_le, ← Int32.toInt_inj, Int32.toInt_add, Int32.toInt_sub, Int32.toInt_mul, Int32.toInt_neg, Int32.reduceToInt, g_bm, g_bm'] at *; simp at *; omega) | (simp_all; done)
set_option maxRecDepth 100000 in
theorem g_X0_knownVisits_v5 (u : qS) (x1 : Int32) (a_2 : Nat) (hz8 : 0 ≤ u.1 8 ∧ u.1 8 ≤ 20) (hz9 : 0 ≤ u.1 9 ∧ u.1 9 ≤ 8) (hz10 : 0 ≤ u.1 10 ∧ u.1 10 ≤ 120) (hz12 : 0 ≤ u.1 12 ∧ u.1 12 ≤ 16) (h_k : 0 ≤ x1 ∧ x1 ≤ u.1 10) (c6_1 : ¬ (x1 : Int32) ≤ 0) (b18_7 : ¬ (qfd u.2.2.2.2 a_2 1 ≤ c_sd u)) : (x1 + (-1)).toInt.toNat < x1.toInt.toNat := by
  first | omega | ((try simp only [g_m1, Int32.lt_iff_toInt_lt, Int32.le_iff_toInt_le, ← Int32.toInt_inj, Int32.reduceToInt] at *); omega) | ((try have ez1 : (x1 + (-1) : Int32).toInt = (x1 : Int32).toInt + ((-1) : Int32).toInt := g_add (by (try simp only [g_m1, Int32.lt_iff_toInt_lt, Int32.le_iff_toInt_le, ← Int32.toInt_inj, Int32.reduceToInt] at *); omega) (by (try simp only [g_m1, Int32.lt_iff_toInt_lt, Int32.le_iff_toInt_le, ← Int32.toInt_inj, Int32.reduceToInt] at *); omega)); (try simp only [g_m1, Int32.lt_iff_toInt_lt, Int32.le_iff_toInt_le, ← Int32.toInt_inj, Int32.reduceToInt] at *); omega) | ((try simp only [g_m1, Int32.lt_iff_toInt_lt, Int32.le_iff_toInt_le, ← Int32.toInt_inj, Int32.toInt_add, Int32.toInt_sub, Int32.toInt_mul, Int32.toInt_neg, Int32.reduceToInt, g_bm, g_bm'] at *); omega) | (have qr1 := g_rng x1; (try simp only [g_m1, Int32.lt_iff_toInt_lt, Int32.le_iff_toInt_le, ← Int32.toInt_inj, Int32.toInt_add, Int32.toInt_sub, Int32.toInt_mul, Int32.toInt_neg, Int32.reduceToInt, g_bm, g_bm'] at *); omega) | (simp only [g_m1, Int32.lt_iff_toInt_lt, Int32.le_iff_toInt_le, ← Int32.toInt_inj, Int32.toInt_add, Int32.toInt_sub, Int32.toInt_mul, Int32.toInt_neg, Int32.reduceToInt, g_bm, g_bm'] at *; simp at *; omega) | (simp_all; done)
set_option maxRecDepth 100000 in
theorem g_X0_knownVisits_v6 (u : qS) (hz8 : 0 ≤ u.1 8 ∧ u.1 8 ≤ 20) (hz9 : 0 ≤ u.1 9 ∧ u.1 9 ≤ 8) (hz10 : 0 ≤ u.1 10 ∧ u.1 10 ≤ 120) (hz12 : 0 ≤ u.1 12 ∧ u.1 12 ≤ 16) : 0 ≤ (u.1 10) ∧ (u.1 10) ≤ u.1 10 := by
  first | omega | ((try simp only [g_m1, Int32.lt_iff_toInt_lt, Int32.le_iff_toInt_le, ← Int32.toInt_inj, Int32.reduceToInt] at *); omega) | ((try simp only [g_m1, Int32.lt_iff_toInt_lt, Int32.le_iff_toInt_le, ← Int32.toInt_inj, Int32.reduceToInt] at *); omega) | ((try simp only [g_m1, Int32.lt_iff_toInt_lt, Int32.le_iff_toInt_le, ← Int32.toInt_inj, Int32.toInt_add, Int32.toInt_sub, Int32.toInt_mul, Int32.toInt_neg, Int32.reduceToInt, g_bm, g_bm'] at *); omega) | ((try simp only [g_m1, Int32.lt_iff_toInt_lt, Int32.le_iff_toInt_le, ← Int32.toInt_inj, Int32.toInt_add, Int32.toInt_sub, Int32.toInt_mul, Int32.toInt_neg, Int32.reduceToInt, g_bm, g_bm'] at *); omega) | (simp only [g_m1, Int32.lt_iff_toInt_lt, Int32.le_iff_toInt_le, ← Int32.toInt_inj, Int32.toInt_add, Int32.toInt_sub, Int32.toInt_mul, Int32.toInt_neg, Int32.reduceToInt, g_bm, g_bm'] at *; simp at *; omega) | (simp_all; done)
set_option maxHeartbeats 1000000 in
set_option maxRecDepth 100000 in
theorem g_X0_knownVisits (l : Launch) (E : qE) (A : Nat → Prop) (u : qS) (hI : IC E u) : Met l yX0_knownVisits (uws yX0_knownVisits cX0_knownVisits 2 (some .int)) (qR 2 0 0) (qPc E A 0 u [.ref (E.2.2 99)]) (qQi E A 0 (fun r u1 => u1 = u ∧ (0 ≤ r ∧ r ≤ u.1 10))) 0 0 A := by
  refine q_met (own := RX0) (f := 2) [.ref (E.2.2 99)] (by decide) (Nat.le_of_ble_eq_true rfl) rfl ?_
  intro p0 e0 s0 m0 bl0 me0 cd0 ls hF hr hlocks hU hS hA hl
  have hl : lv_has ls 2 [(0, .ref (E.2.2 99))] := hl
  have hz8 : 0 ≤ u.1 8 ∧ u.1 8 ≤ 20 := hI.1.s8
  have hz9 : 0 ≤ u.1 9 ∧ u.1 9 ≤ 8 := hI.1.s9
  have hz10 : 0 ≤ u.1 10 ∧ u.1 10 ≤ 120 := hI.1.s10
  have hz12 : 0 ≤ u.1 12 ∧ u.1 12 ≤ 16 := hI.1.s12
  have main : ∀ n : Nat, (∀ (x1 : Int32) (uc : qS) (H : Heap) (locs : List Loc) (ls : Array Slot) (huc : u = uc) (h_k : 0 ≤ x1 ∧ x1 ≤ u.1 10), x1.toInt.toNat < n → qH E A 0 uc s0 H → va_S A s0.heap H locs → lv_has ls 2 [(0, .ref (E.2.2 99)), (1, .int x1)] → W p0 l e0 (qR 2 0 0) s0 m0 ([.ref (E.2.2 99)] : List Value).toArray bl0 me0 cd0 H locs 0 0 (MQ bl0 (qQi E A 0 (fun r u1 => u1 = u ∧ (0 ≤ r ∧ r ≤ u.1 10))) ([.ref (E.2.2 99)] : List Value).toArray s0 0 0 A) (F0 m0 5 ls [])) := by
    intro n
    induction n with
    | zero => exact fun _ _ _ _ _ _ _ hmu => absurd hmu (Nat.not_lt_zero _)
    | succ n ih =>
      intro x1 uc H locs ls huc h_k hmu hU hS hl
      subst huc
      refine lv_iload_n hF.1 hF.2.1 dX0_knownVisits_5 rfl (lv_at hl 1 rfl) ?_
      refine lv_if_le (tgt := 30) hF.1 hF.2.1 dX0_knownVisits_6 (by decide) (fun c6_1 => ?_) (fun c6_1 => ?_)
      · refine lv_iload_n hF.1 hF.2.1 dX0_knownVisits_30 rfl (lv_at hl 1 rfl) ?_
        exact q_iret hF hr rfl hlocks hU hS dX0_knownVisits_31 ⟨rfl, (g_X0_knownVisits_v0 u x1 hz8 hz9 hz10 hz12 h_k c6_1)⟩
      · refine lv_aload_n hF.1 hF.2.1 dX0_knownVisits_9 rfl (lv_at hl 0 rfl) ?_
        refine lv_aload_n hF.1 hF.2.1 dX0_knownVisits_10 rfl (lv_at hl 0 rfl) ?_
        refine q_get (v := .ref (E.2.2 2)) hF hU dX0_knownVisits_11 1 0 2 2 99 rfl rfl rfl rfl inX0 (by decide) (by decide) w_148 rfl rfl ?_
        refine lv_iload_n hF.1 hF.2.1 dX0_knownVisits_14 rfl (lv_at hl 1 rfl) ?_
        refine lv_iconst (v := 1) hF.1 hF.2.1 dX0_knownVisits_15 (by decide) ?_
        refine lv_isub hF.1 hF.2.1 dX0_knownVisits_16 ?_
        obtain ⟨a_2, ha_2_3_e, ha_2_3⟩ := hI.r2 (x1 - 1) (g_X0_knownVisits_v1 u x1 hz8 hz9 hz10 hz12 h_k c6_1)
        refine q_aald (v := .ref a_2) hF hU dX0_knownVisits_17 2 2 6 rfl rfl (by decide) rfl (g_X0_knownVisits_v2 u x1 hz8 hz9 hz10 hz12 h_k c6_1) (by rw [ha_2_3_e]; rfl) ?_
        have hM9 := g_X0_isSeen l E A u a_2 hI ((ha_2_3).rf)
        have hR9 := q_runV (l := l) (e := e0) (below := bl0) (meth := me0) (R := qR 2 0 0) (cells := 0) (slots := 0) (st0 := [.ref a_2, .ref (E.2.2 99)]) (rest := []) hF hU hS hA 1 1 0 99 rfl rfl rfl hM9 w_906 w_861 w_862 w_100 w_863 (by decide +kernel) ⟨Nat.le_of_ble_eq_true rfl, Nat.le_of_ble_eq_true rfl⟩ dX0_knownVisits_18 rfl hl.1 rfl (Nat.le_of_ble_eq_true rfl) ⟨Nat.le_of_ble_eq_true rfl, Nat.le_of_ble_eq_true rfl⟩
        refine q_calli hR9 hU.2.2.2 hS (fun r_6 u_4 H locs hw_5 hU hS => ?_)
        obtain ⟨hw_5_e, hw_5⟩ := hw_5
        rw [hw_5_e] at hU
        have hw_5 : (r_6 = 1 ∧ (qfd u.2.2.2.2 a_2 1 ≤ c_sd u)) ∨ (r_6 = 0 ∧ (¬ (qfd u.2.2.2.2 a_2 1 ≤ c_sd u))) := hw_5
        rcases hw_5 with ⟨rfl, b18_7⟩ | ⟨rfl, b18_7⟩
        · refine lv_if_ne (tgt := 30) hF.1 hF.2.1 dX0_knownVisits_21 (by decide) (fun _ => ?_) (fun h9 => absurd h9 (by decide))
          refine lv_iload_n hF.1 hF.2.1 dX0_knownVisits_30 rfl (lv_at hl 1 rfl) ?_
          exact q_iret hF hr rfl hlocks hU hS dX0_knownVisits_31 ⟨rfl, (g_X0_knownVisits_v3 u x1 a_2 hz8 hz9 hz10 hz12 h_k c6_1 b18_7)⟩
        · refine lv_if_ne (tgt := 30) hF.1 hF.2.1 dX0_knownVisits_21 (by decide) (fun h9 => absurd (by decide) h9) (fun _ => ?_)
          refine lv_iinc (v := x1 + (-1)) (lv' := [(1, .int (x1 + (-1))), (0, .ref (E.2.2 99))]) hF.1 hF.2.1 dX0_knownVisits_24 hl (k := 1) rfl rfl (by decide) rfl (fun ls hl => ?_)
          refine lv_goto (tgt := 5) hF.1 hF.2.1 dX0_knownVisits_27 (by decide) ?_
          exact ih (x1 + (-1)) u _ _ _ rfl  (g_X0_knownVisits_v4 u x1 a_2 hz8 hz9 hz10 hz12 h_k c6_1 b18_7) (Nat.lt_of_lt_of_le (g_X0_knownVisits_v5 u x1 a_2 hz8 hz9 hz10 hz12 h_k c6_1 b18_7) (Nat.lt_succ_iff.mp hmu)) hU hS (lv_sub hl [1, 0] rfl)
  refine lv_aload_n hF.1 hF.2.1 dX0_knownVisits_0 rfl (lv_at hl 0 rfl) ?_
  refine q_get (v := .int (u.1 10)) hF hU dX0_knownVisits_1 1 0 10 10 99 rfl rfl rfl rfl inX0 (by decide) (by decide) w_171 rfl rfl ?_
  refine lv_istore_n (lv' := [(1, .int (u.1 10)), (0, .ref (E.2.2 99))]) hF.1 hF.2.1 dX0_knownVisits_4 rfl hl (by decide) rfl (fun ls hl => ?_)
  exact (main _) (u.1 10) u _ _ _ rfl  (g_X0_knownVisits_v6 u hz8 hz9 hz10 hz12) (Nat.lt_succ_self _) hU hS (lv_sub hl [1, 0] rfl)
set_option maxRecDepth 100000 in
theorem g_X0_toldOf_v0 (u : qS) (x : Int32) (y : Int32) (x3 : Int32) (x4 : Int32) (hz8 : 0 ≤ u.1 8 ∧ u.1 8 ≤ 20) (hz9 : 0 ≤ u.1 9 ∧ u.1 9 ≤ 8) (hz10 : 0 ≤ u.1 10 ∧ u.1 10 ≤ 120) (hz12 : 0 ≤ u.1 12 ∧ u.1 12 ≤ 16) (h_k : 0 ≤ x4) (h_v : x4 ≤ u.1 10) (h_n : x3.toInt = (g_ct (cvr u 3) (cvr u 4) x y x4.toNatClampNeg : Int)) (c11_1 : (u.1 10) ≤ (x4 : Int32)) : (x3 : Int32).toInt = (g_ct (cvr u 3) (cvr u 4) x y (u.1 10).toNatClampNeg : Int) := by
  have e : x4 = u.1 10 := Int32.toInt_inj.mp (by clear h_n; (try simp only [g_m1, Int32.lt_iff_toInt_lt, Int32.le_iff_toInt_le, ← Int32.toInt_inj, Int32.reduceToInt] at *); omega)
  rw [e] at h_n; exact h_n
set_option maxRecDepth 100000 in
theorem g_X0_toldOf_v1 (u : qS) (x : Int32) (y : Int32) (x3 : Int32) (x4 : Int32) (hz8 : 0 ≤ u.1 8 ∧ u.1 8 ≤ 20) (hz9 : 0 ≤ u.1 9 ∧ u.1 9 ≤ 8) (hz10 : 0 ≤ u.1 10 ∧ u.1 10 ≤ 120) (hz12 : 0 ≤ u.1 12 ∧ u.1 12 ≤ 16) (h_k : 0 ≤ x4) (h_v : x4 ≤ u.1 10) (h_n : x3.toInt = (g_ct (cvr u 3) (cvr u 4) x y x4.toNatClampNeg : Int)) (c11_1 : ¬ (u.1 10) ≤ (x4 : Int32)) : 0 ≤ x4 ∧ x4 < (u.1 10) := by
  first | omega | ((try simp only [g_m1, Int32.lt_iff_toInt_lt, Int32.le_iff_toInt_le, ← Int32.toInt_inj, Int32.reduceToInt] at *); omega) | ((try simp only [g_m1, Int32.lt_iff_toInt_lt, Int32.le_iff_toInt_le, ← Int32.toInt_inj, Int32.reduceToInt] at *); omega) | ((try simp only [g_m1, Int32.lt_iff_toInt_lt, Int32.le_iff_toInt_le, ← Int32.toInt_inj, Int32.toInt_add, Int32.toInt_sub, Int32.toInt_mul, Int32.toInt_neg, Int32.reduceToInt, g_bm, g_bm'] at *); omega) | (have qr1 := g_rng x; have qr2 := g_rng y; have qr3 := g_rng x3; have qr4 := g_rng x4; (try simp only [g_m1, Int32.lt_iff_toInt_lt, Int32.le_iff_toInt_le, ← Int32.toInt_inj, Int32.toInt_add, Int32.toInt_sub, Int32.toInt_mul, Int32.toInt_neg, Int32.reduceToInt, g_bm, g_bm'] at *); omega) | (simp only [g_m1, Int32.lt_iff_toInt_lt, Int32.le_iff_toInt_le, ← Int32.toInt_inj, Int32.toInt_add, Int32.toInt_sub, Int32.toInt_mul, Int32.toInt_neg, Int32.reduceToInt, g_bm, g_bm'] at *; simp at *; omega) | (simp_all; done)
set_option maxRecDepth 100000 in
theorem g_X0_toldOf_v2 (u : qS) (x : Int32) (y : Int32) (x3 : Int32) (x4 : Int32) (hz8 : 0 ≤ u.1 8 ∧ u.1 8 ≤ 20) (hz9 : 0 ≤ u.1 9 ∧ u.1 9 ≤ 8) (hz10 : 0 ≤ u.1 10 ∧ u.1 10 ≤ 120) (hz12 : 0 ≤ u.1 12 ∧ u.1 12 ≤ 16) (h_k : 0 ≤ x4) (h_v : x4 ≤ u.1 10) (h_n : x3.toInt = (g_ct (cvr u 3) (cvr u 4) x y x4.toNatClampNeg : Int)) (c11_1 : ¬ (u.1 10) ≤ (x4 : Int32)) : vp_in (x4) 120 := by
  refine g_in ?_ ?_ <;> ((try simp only [g_m1, Int32.lt_iff_toInt_lt, Int32.le_iff_toInt_le, ← Int32.toInt_inj, Int32.toInt_add, Int32.toInt_sub, Int32.toInt_mul, Int32.toInt_neg, Int32.reduceToInt, g_bm, g_bm'] at *); omega)
set_option maxRecDepth 100000 in
theorem g_X0_toldOf_v3 (u : qS) (x : Int32) (y : Int32) (x3 : Int32) (x4 : Int32) (a_2 : Nat) (hz8 : 0 ≤ u.1 8 ∧ u.1 8 ≤ 20) (hz9 : 0 ≤ u.1 9 ∧ u.1 9 ≤ 8) (hz10 : 0 ≤ u.1 10 ∧ u.1 10 ≤ 120) (hz12 : 0 ≤ u.1 12 ∧ u.1 12 ≤ 16) (h_k : 0 ≤ x4) (h_v : x4 ≤ u.1 10) (h_n : x3.toInt = (g_ct (cvr u 3) (cvr u 4) x y x4.toNatClampNeg : Int)) (c11_1 : ¬ (u.1 10) ≤ (x4 : Int32)) (ha_2_3_e : u.2.2.2.1 2 (x4 : Int32).toNatClampNeg = some a_2) (hb_9 : 0 ≤ qfd u.2.2.2.2 a_2 3 ∧ qfd u.2.2.2.2 a_2 3 < (u.1 9)) (c25_10 : ¬ (qfd u.2.2.2.2 a_2 3 : Int32) = x) : 0 ≤ (x4 + 1) := by
  first | omega | ((try simp only [g_m1, Int32.lt_iff_toInt_lt, Int32.le_iff_toInt_le, ← Int32.toInt_inj, Int32.reduceToInt] at *); omega) | ((try have ez0 : (x4 + 1 : Int32).toInt = (x4 : Int32).toInt + (1 : Int32).toInt := g_add (by (try simp only [g_m1, Int32.lt_iff_toInt_lt, Int32.le_iff_toInt_le, ← Int32.toInt_inj, Int32.reduceToInt] at *); omega) (by (try simp only [g_m1, Int32.lt_iff_toInt_lt, Int32.le_iff_toInt_le, ← Int32.toInt_inj, Int32.reduceToInt] at *); omega)); (try simp only [g_m1, Int32.lt_iff_toInt_lt, Int32.le_iff_toInt_le, ← Int32.toInt_inj, Int32.reduceToInt] at *); omega) | ((try simp only [g_m1, Int32.lt_iff_toInt_lt, Int32.le_iff_toInt_le, ← Int32.toInt_inj, Int32.toInt_add, Int32.toInt_sub, Int32.toInt_mul, Int32.toInt_neg, Int32.reduceToInt, g_bm, g_bm'] at *); omega) | (have qr1 := g_rng x; have qr2 := g_rng y; have qr3 := g_rng x3; have qr4 := g_rng x4; (try simp only [g_m1, Int32.lt_iff_toInt_lt, Int32.le_iff_toInt_le, ← Int32.toInt_inj, Int32.toInt_add, Int32.toInt_sub, Int32.toInt_mul, Int32.toInt_neg, Int32.reduceToInt, g_bm, g_bm'] at *); omega) | (simp only [g_m1, Int32.lt_iff_toInt_lt, Int32.le_iff_toInt_le, ← Int32.toInt_inj, Int32.toInt_add, Int32.toInt_sub, Int32.toInt_mul, Int32.toInt_neg, Int32.reduceToInt, g_bm, g_bm'] at *; simp at *; omega) | (simp_all; done)
set_option maxRecDepth 100000 in
theorem g_X0_toldOf_v4 (u : qS) (x : Int32) (y : Int32) (x3 : Int32) (x4 : Int32) (a_2 : Nat) (hz8 : 0 ≤ u.1 8 ∧ u.1 8 ≤ 20) (hz9 : 0 ≤ u.1 9 ∧ u.1 9 ≤ 8) (hz10 : 0 ≤ u.1 10 ∧ u.1 10 ≤ 120) (hz12 : 0 ≤ u.1 12 ∧ u.1 12 ≤ 16) (h_k : 0 ≤ x4) (h_v : x4 ≤ u.1 10) (h_n : x3.toInt = (g_ct (cvr u 3) (cvr u 4) x y x4.toNatClampNeg : Int)) (c11_1 : ¬ (u.1 10) ≤ (x4 : Int32)) (ha_2_3_e : u.2.2.2.1 2 (x4 : Int32).toNatClampNeg = some a_2) (hb_9 : 0 ≤ qfd u.2.2.2.2 a_2 3 ∧ qfd u.2.2.2.2 a_2 3 < (u.1 9)) (c25_10 : ¬ (qfd u.2.2.2.2 a_2 3 : Int32) = x) : (x4 + 1) ≤ u.1 10 := by
  first | omega | ((try simp only [g_m1, Int32.lt_iff_toInt_lt, Int32.le_iff_toInt_le, ← Int32.toInt_inj, Int32.reduceToInt] at *); omega) | ((try have ez0 : (x4 + 1 : Int32).toInt = (x4 : Int32).toInt + (1 : Int32).toInt := g_add (by (try simp only [g_m1, Int32.lt_iff_toInt_lt, Int32.le_iff_toInt_le, ← Int32.toInt_inj, Int32.reduceToInt] at *); omega) (by (try simp only [g_m1, Int32.lt_iff_toInt_lt, Int32.le_iff_toInt_le, ← Int32.toInt_inj, Int32.reduceToInt] at *); omega)); (try simp only [g_m1, Int32.lt_iff_toInt_lt, Int32.le_iff_toInt_le, ← Int32.toInt_inj, Int32.reduceToInt] at *); omega) | ((try simp only [g_m1, Int32.lt_iff_toInt_lt, Int32.le_iff_toInt_le, ← Int32.toInt_inj, Int32.toInt_add, Int32.toInt_sub, Int32.toInt_mul, Int32.toInt_neg, Int32.reduceToInt, g_bm, g_bm'] at *); omega) | (have qr1 := g_rng x; have qr2 := g_rng y; have qr3 := g_rng x3; have qr4 := g_rng x4; (try simp only [g_m1, Int32.lt_iff_toInt_lt, Int32.le_iff_toInt_le, ← Int32.toInt_inj, Int32.toInt_add, Int32.toInt_sub, Int32.toInt_mul, Int32.toInt_neg, Int32.reduceToInt, g_bm, g_bm'] at *); omega) | (simp only [g_m1, Int32.lt_iff_toInt_lt, Int32.le_iff_toInt_le, ← Int32.toInt_inj, Int32.toInt_add, Int32.toInt_sub, Int32.toInt_mul, Int32.toInt_neg, Int32.reduceToInt, g_bm, g_bm'] at *; simp at *; omega) | (simp_all; done)
set_option maxRecDepth 100000 in
theorem g_X0_toldOf_v5 (u : qS) (x : Int32) (y : Int32) (x3 : Int32) (x4 : Int32) (a_2 : Nat) (hz8 : 0 ≤ u.1 8 ∧ u.1 8 ≤ 20) (hz9 : 0 ≤ u.1 9 ∧ u.1 9 ≤ 8) (hz10 : 0 ≤ u.1 10 ∧ u.1 10 ≤ 120) (hz12 : 0 ≤ u.1 12 ∧ u.1 12 ≤ 16) (h_k : 0 ≤ x4) (h_v : x4 ≤ u.1 10) (h_n : x3.toInt = (g_ct (cvr u 3) (cvr u 4) x y x4.toNatClampNeg : Int)) (c11_1 : ¬ (u.1 10) ≤ (x4 : Int32)) (ha_2_3_e : u.2.2.2.1 2 (x4 : Int32).toNatClampNeg = some a_2) (hb_9 : 0 ≤ qfd u.2.2.2.2 a_2 3 ∧ qfd u.2.2.2.2 a_2 3 < (u.1 9)) (c25_10 : ¬ (qfd u.2.2.2.2 a_2 3 : Int32) = x) : x3.toInt = (g_ct (cvr u 3) (cvr u 4) x y (x4 + 1).toNatClampNeg : Int) := by
  have q8 := g_ct_le (cvr u 3) (cvr u 4) x y x4.toNatClampNeg
  have c4 := g_clamp x4
  have q0 : 0 ≤ x4.toInt := (by clear h_n; (try simp only [g_m1, Int32.lt_iff_toInt_lt, Int32.le_iff_toInt_le, ← Int32.toInt_inj, Int32.reduceToInt] at *); omega)
  have q1 : x4.toInt < 120 := (by clear h_n; (try simp only [g_m1, Int32.lt_iff_toInt_lt, Int32.le_iff_toInt_le, ← Int32.toInt_inj, Int32.reduceToInt] at *); omega)
  rw [g_ct_s _ _ _ _ q0 (by omega)]
  have hr9 := (by assumption : u.2.2.2.1 2 (x4 : Int32).toNatClampNeg = some _)
  have z3 : cvr u 3 x4.toNatClampNeg = _ := cvr_at hr9
  have z4 : cvr u 4 x4.toNatClampNeg = _ := cvr_at hr9
  rw [z3, z4]
  split
  · rename_i q; first | exact absurd q.1 (by assumption) | exact absurd q.2 (by assumption) | (have z := (g_up (i := x3) (by omega) (by omega)).1; omega)
  · rename_i q; first | exact (q ⟨by assumption, by assumption⟩).elim | omega
set_option maxRecDepth 100000 in
theorem g_X0_toldOf_v6 (u : qS) (x : Int32) (y : Int32) (x3 : Int32) (x4 : Int32) (a_2 : Nat) (hz8 : 0 ≤ u.1 8 ∧ u.1 8 ≤ 20) (hz9 : 0 ≤ u.1 9 ∧ u.1 9 ≤ 8) (hz10 : 0 ≤ u.1 10 ∧ u.1 10 ≤ 120) (hz12 : 0 ≤ u.1 12 ∧ u.1 12 ≤ 16) (h_k : 0 ≤ x4) (h_v : x4 ≤ u.1 10) (h_n : x3.toInt = (g_ct (cvr u 3) (cvr u 4) x y x4.toNatClampNeg : Int)) (c11_1 : ¬ (u.1 10) ≤ (x4 : Int32)) (ha_2_3_e : u.2.2.2.1 2 (x4 : Int32).toNatClampNeg = some a_2) (hb_9 : 0 ≤ qfd u.2.2.2.2 a_2 3 ∧ qfd u.2.2.2.2 a_2 3 < (u.1 9)) (c25_10 : ¬ (qfd u.2.2.2.2 a_2 3 : Int32) = x) : ((u.1 10).toInt - (x4 + 1).toInt).toNat < ((u.1 10).toInt - x4.toInt).toNat := by
  first | omega | ((try simp only [g_m1, Int32.lt_iff_toInt_lt, Int32.le_iff_toInt_le, ← Int32.toInt_inj, Int32.reduceToInt] at *); omega) | ((try have ez0 : (x4 + 1 : Int32).toInt = (x4 : Int32).toInt + (1 : Int32).toInt := g_add (by (try simp only [g_m1, Int32.lt_iff_toInt_lt, Int32.le_iff_toInt_le, ← Int32.toInt_inj, Int32.reduceToInt] at *); omega) (by (try simp only [g_m1, Int32.lt_iff_toInt_lt, Int32.le_iff_toInt_le, ← Int32.toInt_inj, Int32.reduceToInt] at *); omega)); (try simp only [g_m1, Int32.lt_iff_toInt_lt, Int32.le_iff_toInt_le, ← Int32.toInt_inj, Int32.reduceToInt] at *); omega) | ((try simp only [g_m1, Int32.lt_iff_toInt_lt, Int32.le_iff_toInt_le, ← Int32.toInt_inj, Int32.toInt_add, Int32.toInt_sub, Int32.toInt_mul, Int32.toInt_neg, Int32.reduceToInt, g_bm, g_bm'] at *); omega) | (have qr1 := g_rng x; have qr2 := g_rng y; have qr3 := g_rng x3; have qr4 := g_rng x4; (try simp only [g_m1, Int32.lt_iff_toInt_lt, Int32.le_iff_toInt_le, ← Int32.toInt_inj, Int32.toInt_add, Int32.toInt_sub, Int32.toInt_mul, Int32.toInt_neg, Int32.reduceToInt, g_bm, g_bm'] at *); omega) | (simp only [g_m1, Int32.lt_iff_toInt_lt, Int32.le_iff_toInt_le, ← Int32.toInt_inj, Int32.toInt_add, Int32.toInt_sub, Int32.toInt_mul, Int32.toInt_neg, Int32.reduceToInt, g_bm, g_bm'] at *; simp at *; omega) | (simp_all; done)
set_option maxRecDepth 100000 in
theorem g_X0_toldOf_v7 (u : qS) (x : Int32) (y : Int32) (x3 : Int32) (x4 : Int32) (a_2 : Nat) (hz8 : 0 ≤ u.1 8 ∧ u.1 8 ≤ 20) (hz9 : 0 ≤ u.1 9 ∧ u.1 9 ≤ 8) (hz10 : 0 ≤ u.1 10 ∧ u.1 10 ≤ 120) (hz12 : 0 ≤ u.1 12 ∧ u.1 12 ≤ 16) (h_k : 0 ≤ x4) (h_v : x4 ≤ u.1 10) (h_n : x3.toInt = (g_ct (cvr u 3) (cvr u 4) x y x4.toNatClampNeg : Int)) (c11_1 : ¬ (u.1 10) ≤ (x4 : Int32)) (ha_2_3_e : u.2.2.2.1 2 (x4 : Int32).toNatClampNeg = some a_2) (hb_9 : 0 ≤ qfd u.2.2.2.2 a_2 3 ∧ qfd u.2.2.2.2 a_2 3 < (u.1 9)) (c25_10 : (qfd u.2.2.2.2 a_2 3 : Int32) = x) : 0 ≤ x4 ∧ x4 < (u.1 10) := by
  first | omega | ((try simp only [g_m1, Int32.lt_iff_toInt_lt, Int32.le_iff_toInt_le, ← Int32.toInt_inj, Int32.reduceToInt] at *); omega) | ((try simp only [g_m1, Int32.lt_iff_toInt_lt, Int32.le_iff_toInt_le, ← Int32.toInt_inj, Int32.reduceToInt] at *); omega) | ((try simp only [g_m1, Int32.lt_iff_toInt_lt, Int32.le_iff_toInt_le, ← Int32.toInt_inj, Int32.toInt_add, Int32.toInt_sub, Int32.toInt_mul, Int32.toInt_neg, Int32.reduceToInt, g_bm, g_bm'] at *); omega) | (have qr1 := g_rng x; have qr2 := g_rng y; have qr3 := g_rng x3; have qr4 := g_rng x4; (try simp only [g_m1, Int32.lt_iff_toInt_lt, Int32.le_iff_toInt_le, ← Int32.toInt_inj, Int32.toInt_add, Int32.toInt_sub, Int32.toInt_mul, Int32.toInt_neg, Int32.reduceToInt, g_bm, g_bm'] at *); omega) | (simp only [g_m1, Int32.lt_iff_toInt_lt, Int32.le_iff_toInt_le, ← Int32.toInt_inj, Int32.toInt_add, Int32.toInt_sub, Int32.toInt_mul, Int32.toInt_neg, Int32.reduceToInt, g_bm, g_bm'] at *; simp at *; omega) | (simp_all; done)
set_option maxRecDepth 100000 in
theorem g_X0_toldOf_v8 (u : qS) (x : Int32) (y : Int32) (x3 : Int32) (x4 : Int32) (a_2 : Nat) (hz8 : 0 ≤ u.1 8 ∧ u.1 8 ≤ 20) (hz9 : 0 ≤ u.1 9 ∧ u.1 9 ≤ 8) (hz10 : 0 ≤ u.1 10 ∧ u.1 10 ≤ 120) (hz12 : 0 ≤ u.1 12 ∧ u.1 12 ≤ 16) (h_k : 0 ≤ x4) (h_v : x4 ≤ u.1 10) (h_n : x3.toInt = (g_ct (cvr u 3) (cvr u 4) x y x4.toNatClampNeg : Int)) (c11_1 : ¬ (u.1 10) ≤ (x4 : Int32)) (ha_2_3_e : u.2.2.2.1 2 (x4 : Int32).toNatClampNeg = some a_2) (hb_9 : 0 ≤ qfd u.2.2.2.2 a_2 3 ∧ qfd u.2.2.2.2 a_2 3 < (u.1 9)) (c25_10 : (qfd u.2.2.2.2 a_2 3 : Int32) = x) : vp_in (x4) 120 := by
  refine g_in ?_ ?_ <;> ((try simp only [g_m1, Int32.lt_iff_toInt_lt, Int32.le_iff_toInt_le, ← Int32.toInt_inj, Int32.toInt_add, Int32.toInt_sub, Int32.toInt_mul, Int32.toInt_neg, Int32.reduceToInt, g_bm, g_bm'] at *); omega)
set_option maxRecDepth 100000 in
theorem g_X0_toldOf_v9 (u : qS) (x : Int32) (y : Int32) (x3 : Int32) (x4 : Int32) (a_2 : Nat) (hz8 : 0 ≤ u.1 8 ∧ u.1 8 ≤ 20) (hz9 : 0 ≤ u.1 9 ∧ u.1 9 ≤ 8) (hz10 : 0 ≤ u.1 10 ∧ u.1 10 ≤ 120) (hz12 : 0 ≤ u.1 12 ∧ u.1 12 ≤ 16) (h_k : 0 ≤ x4) (h_v : x4 ≤ u.1 10) (h_n : x3.toInt = (g_ct (cvr u 3) (cvr u 4) x y x4.toNatClampNeg : Int)) (c11_1 : ¬ (u.1 10) ≤ (x4 : Int32)) (ha_2_3_e : u.2.2.2.1 2 (x4 : Int32).toNatClampNeg = some a_2) (hb_9 : 0 ≤ qfd u.2.2.2.2 a_2 3 ∧ qfd u.2.2.2.2 a_2 3 < (u.1 9)) (c25_10 : (qfd u.2.2.2.2 a_2 3 : Int32) = x) (c39_18 : ¬ (qfd u.2.2.2.2 a_2 4 : Int32) = y) : 0 ≤ (x4 + 1) := by
  first | omega | ((try simp only [g_m1, Int32.lt_iff_toInt_lt, Int32.le_iff_toInt_le, ← Int32.toInt_inj, Int32.reduceToInt] at *); omega) | ((try have ez0 : (x4 + 1 : Int32).toInt = (x4 : Int32).toInt + (1 : Int32).toInt := g_add (by (try simp only [g_m1, Int32.lt_iff_toInt_lt, Int32.le_iff_toInt_le, ← Int32.toInt_inj, Int32.reduceToInt] at *); omega) (by (try simp only [g_m1, Int32.lt_iff_toInt_lt, Int32.le_iff_toInt_le, ← Int32.toInt_inj, Int32.reduceToInt] at *); omega)); (try simp only [g_m1, Int32.lt_iff_toInt_lt, Int32.le_iff_toInt_le, ← Int32.toInt_inj, Int32.reduceToInt] at *); omega) | ((try simp only [g_m1, Int32.lt_iff_toInt_lt, Int32.le_iff_toInt_le, ← Int32.toInt_inj, Int32.toInt_add, Int32.toInt_sub, Int32.toInt_mul, Int32.toInt_neg, Int32.reduceToInt, g_bm, g_bm'] at *); omega) | (have qr1 := g_rng x; have qr2 := g_rng y; have qr3 := g_rng x3; have qr4 := g_rng x4; (try simp only [g_m1, Int32.lt_iff_toInt_lt, Int32.le_iff_toInt_le, ← Int32.toInt_inj, Int32.toInt_add, Int32.toInt_sub, Int32.toInt_mul, Int32.toInt_neg, Int32.reduceToInt, g_bm, g_bm'] at *); omega) | (simp only [g_m1, Int32.lt_iff_toInt_lt, Int32.le_iff_toInt_le, ← Int32.toInt_inj, Int32.toInt_add, Int32.toInt_sub, Int32.toInt_mul, Int32.toInt_neg, Int32.reduceToInt, g_bm, g_bm'] at *; simp at *; omega) | (simp_all; done)
set_option maxRecDepth 100000 in
theorem g_X0_toldOf_v10 (u : qS) (x : Int32) (y : Int32) (x3 : Int32) (x4 : Int32) (a_2 : Nat) (hz8 : 0 ≤ u.1 8 ∧ u.1 8 ≤ 20) (hz9 : 0 ≤ u.1 9 ∧ u.1 9 ≤ 8) (hz10 : 0 ≤ u.1 10 ∧ u.1 10 ≤ 120) (hz12 : 0 ≤ u.1 12 ∧ u.1 12 ≤ 16) (h_k : 0 ≤ x4) (h_v : x4 ≤ u.1 10) (h_n : x3.toInt = (g_ct (cvr u 3) (cvr u 4) x y x4.toNatClampNeg : Int)) (c11_1 : ¬ (u.1 10) ≤ (x4 : Int32)) (ha_2_3_e : u.2.2.2.1 2 (x4 : Int32).toNatClampNeg = some a_2) (hb_9 : 0 ≤ qfd u.2.2.2.2 a_2 3 ∧ qfd u.2.2.2.2 a_2 3 < (u.1 9)) (c25_10 : (qfd u.2.2.2.2 a_2 3 : Int32) = x) (c39_18 : ¬ (qfd u.2.2.2.2 a_2 4 : Int32) = y) : (x4 + 1) ≤ u.1 10 := by
  first | omega | ((try simp only [g_m1, Int32.lt_iff_toInt_lt, Int32.le_iff_toInt_le, ← Int32.toInt_inj, Int32.reduceToInt] at *); omega) | ((try have ez0 : (x4 + 1 : Int32).toInt = (x4 : Int32).toInt + (1 : Int32).toInt := g_add (by (try simp only [g_m1, Int32.lt_iff_toInt_lt, Int32.le_iff_toInt_le, ← Int32.toInt_inj, Int32.reduceToInt] at *); omega) (by (try simp only [g_m1, Int32.lt_iff_toInt_lt, Int32.le_iff_toInt_le, ← Int32.toInt_inj, Int32.reduceToInt] at *); omega)); (try simp only [g_m1, Int32.lt_iff_toInt_lt, Int32.le_iff_toInt_le, ← Int32.toInt_inj, Int32.reduceToInt] at *); omega) | ((try simp only [g_m1, Int32.lt_iff_toInt_lt, Int32.le_iff_toInt_le, ← Int32.toInt_inj, Int32.toInt_add, Int32.toInt_sub, Int32.toInt_mul, Int32.toInt_neg, Int32.reduceToInt, g_bm, g_bm'] at *); omega) | (have qr1 := g_rng x; have qr2 := g_rng y; have qr3 := g_rng x3; have qr4 := g_rng x4; (try simp only [g_m1, Int32.lt_iff_toInt_lt, Int32.le_iff_toInt_le, ← Int32.toInt_inj, Int32.toInt_add, Int32.toInt_sub, Int32.toInt_mul, Int32.toInt_neg, Int32.reduceToInt, g_bm, g_bm'] at *); omega) | (simp only [g_m1, Int32.lt_iff_toInt_lt, Int32.le_iff_toInt_le, ← Int32.toInt_inj, Int32.toInt_add, Int32.toInt_sub, Int32.toInt_mul, Int32.toInt_neg, Int32.reduceToInt, g_bm, g_bm'] at *; simp at *; omega) | (simp_all; done)
set_option maxRecDepth 100000 in
theorem g_X0_toldOf_v11 (u : qS) (x : Int32) (y : Int32) (x3 : Int32) (x4 : Int32) (a_2 : Nat) (hz8 : 0 ≤ u.1 8 ∧ u.1 8 ≤ 20) (hz9 : 0 ≤ u.1 9 ∧ u.1 9 ≤ 8) (hz10 : 0 ≤ u.1 10 ∧ u.1 10 ≤ 120) (hz12 : 0 ≤ u.1 12 ∧ u.1 12 ≤ 16) (h_k : 0 ≤ x4) (h_v : x4 ≤ u.1 10) (h_n : x3.toInt = (g_ct (cvr u 3) (cvr u 4) x y x4.toNatClampNeg : Int)) (c11_1 : ¬ (u.1 10) ≤ (x4 : Int32)) (ha_2_3_e : u.2.2.2.1 2 (x4 : Int32).toNatClampNeg = some a_2) (hb_9 : 0 ≤ qfd u.2.2.2.2 a_2 3 ∧ qfd u.2.2.2.2 a_2 3 < (u.1 9)) (c25_10 : (qfd u.2.2.2.2 a_2 3 : Int32) = x) (c39_18 : ¬ (qfd u.2.2.2.2 a_2 4 : Int32) = y) : x3.toInt = (g_ct (cvr u 3) (cvr u 4) x y (x4 + 1).toNatClampNeg : Int) := by
  have q8 := g_ct_le (cvr u 3) (cvr u 4) x y x4.toNatClampNeg
  have c4 := g_clamp x4
  have q0 : 0 ≤ x4.toInt := (by clear h_n; (try simp only [g_m1, Int32.lt_iff_toInt_lt, Int32.le_iff_toInt_le, ← Int32.toInt_inj, Int32.reduceToInt] at *); omega)
  have q1 : x4.toInt < 120 := (by clear h_n; (try simp only [g_m1, Int32.lt_iff_toInt_lt, Int32.le_iff_toInt_le, ← Int32.toInt_inj, Int32.reduceToInt] at *); omega)
  rw [g_ct_s _ _ _ _ q0 (by omega)]
  have hr9 := (by assumption : u.2.2.2.1 2 (x4 : Int32).toNatClampNeg = some _)
  have z3 : cvr u 3 x4.toNatClampNeg = _ := cvr_at hr9
  have z4 : cvr u 4 x4.toNatClampNeg = _ := cvr_at hr9
  rw [z3, z4]
  split
  · rename_i q; first | exact absurd q.1 (by assumption) | exact absurd q.2 (by assumption) | (have z := (g_up (i := x3) (by omega) (by omega)).1; omega)
  · rename_i q; first | exact (q ⟨by assumption, by assumption⟩).elim | omega
set_option maxRecDepth 100000 in
theorem g_X0_toldOf_v12 (u : qS) (x : Int32) (y : Int32) (x3 : Int32) (x4 : Int32) (a_2 : Nat) (hz8 : 0 ≤ u.1 8 ∧ u.1 8 ≤ 20) (hz9 : 0 ≤ u.1 9 ∧ u.1 9 ≤ 8) (hz10 : 0 ≤ u.1 10 ∧ u.1 10 ≤ 120) (hz12 : 0 ≤ u.1 12 ∧ u.1 12 ≤ 16) (h_k : 0 ≤ x4) (h_v : x4 ≤ u.1 10) (h_n : x3.toInt = (g_ct (cvr u 3) (cvr u 4) x y x4.toNatClampNeg : Int)) (c11_1 : ¬ (u.1 10) ≤ (x4 : Int32)) (ha_2_3_e : u.2.2.2.1 2 (x4 : Int32).toNatClampNeg = some a_2) (hb_9 : 0 ≤ qfd u.2.2.2.2 a_2 3 ∧ qfd u.2.2.2.2 a_2 3 < (u.1 9)) (c25_10 : (qfd u.2.2.2.2 a_2 3 : Int32) = x) (c39_18 : ¬ (qfd u.2.2.2.2 a_2 4 : Int32) = y) : ((u.1 10).toInt - (x4 + 1).toInt).toNat < ((u.1 10).toInt - x4.toInt).toNat := by
  first | omega | ((try simp only [g_m1, Int32.lt_iff_toInt_lt, Int32.le_iff_toInt_le, ← Int32.toInt_inj, Int32.reduceToInt] at *); omega) | ((try have ez0 : (x4 + 1 : Int32).toInt = (x4 : Int32).toInt + (1 : Int32).toInt := g_add (by (try simp only [g_m1, Int32.lt_iff_toInt_lt, Int32.le_iff_toInt_le, ← Int32.toInt_inj, Int32.reduceToInt] at *); omega) (by (try simp only [g_m1, Int32.lt_iff_toInt_lt, Int32.le_iff_toInt_le, ← Int32.toInt_inj, Int32.reduceToInt] at *); omega)); (try simp only [g_m1, Int32.lt_iff_toInt_lt, Int32.le_iff_toInt_le, ← Int32.toInt_inj, Int32.reduceToInt] at *); omega) | ((try simp only [g_m1, Int32.lt_iff_toInt_lt, Int32.le_iff_toInt_le, ← Int32.toInt_inj, Int32.toInt_add, Int32.toInt_sub, Int32.toInt_mul, Int32.toInt_neg, Int32.reduceToInt, g_bm, g_bm'] at *); omega) | (have qr1 := g_rng x; have qr2 := g_rng y; have qr3 := g_rng x3; have qr4 := g_rng x4; (try simp only [g_m1, Int32.lt_iff_toInt_lt, Int32.le_iff_toInt_le, ← Int32.toInt_inj, Int32.toInt_add, Int32.toInt_sub, Int32.toInt_mul, Int32.toInt_neg, Int32.reduceToInt, g_bm, g_bm'] at *); omega) | (simp only [g_m1, Int32.lt_iff_toInt_lt, Int32.le_iff_toInt_le, ← Int32.toInt_inj, Int32.toInt_add, Int32.toInt_sub, Int32.toInt_mul, Int32.toInt_neg, Int32.reduceToInt, g_bm, g_bm'] at *; simp at *; omega) | (simp_all; done)
set_option maxRecDepth 100000 in
theorem g_X0_toldOf_v13 (u : qS) (x : Int32) (y : Int32) (x3 : Int32) (x4 : Int32) (a_2 : Nat) (hz8 : 0 ≤ u.1 8 ∧ u.1 8 ≤ 20) (hz9 : 0 ≤ u.1 9 ∧ u.1 9 ≤ 8) (hz10 : 0 ≤ u.1 10 ∧ u.1 10 ≤ 120) (hz12 : 0 ≤ u.1 12 ∧ u.1 12 ≤ 16) (h_k : 0 ≤ x4) (h_v : x4 ≤ u.1 10) (h_n : x3.toInt = (g_ct (cvr u 3) (cvr u 4) x y x4.toNatClampNeg : Int)) (c11_1 : ¬ (u.1 10) ≤ (x4 : Int32)) (ha_2_3_e : u.2.2.2.1 2 (x4 : Int32).toNatClampNeg = some a_2) (hb_9 : 0 ≤ qfd u.2.2.2.2 a_2 3 ∧ qfd u.2.2.2.2 a_2 3 < (u.1 9)) (c25_10 : (qfd u.2.2.2.2 a_2 3 : Int32) = x) (c39_18 : (qfd u.2.2.2.2 a_2 4 : Int32) = y) : 0 ≤ (x4 + 1) := by
  first | omega | ((try simp only [g_m1, Int32.lt_iff_toInt_lt, Int32.le_iff_toInt_le, ← Int32.toInt_inj, Int32.reduceToInt] at *); omega) | ((try have ez1 : (x4 + 1 : Int32).toInt = (x4 : Int32).toInt + (1 : Int32).toInt := g_add (by (try simp only [g_m1, Int32.lt_iff_toInt_lt, Int32.le_iff_toInt_le, ← Int32.toInt_inj, Int32.reduceToInt] at *); omega) (by (try simp only [g_m1, Int32.lt_iff_toInt_lt, Int32.le_iff_toInt_le, ← Int32.toInt_inj, Int32.reduceToInt] at *); omega)); (try simp only [g_m1, Int32.lt_iff_toInt_lt, Int32.le_iff_toInt_le, ← Int32.toInt_inj, Int32.reduceToInt] at *); omega) | ((try simp only [g_m1, Int32.lt_iff_toInt_lt, Int32.le_iff_toInt_le, ← Int32.toInt_inj, Int32.toInt_add, Int32.toInt_sub, Int32.toInt_mul, Int32.toInt_neg, Int32.reduceToInt, g_bm, g_bm'] at *); omega) | (have qr1 := g_rng x; have qr2 := g_rng y; have qr3 := g_rng x3; have qr4 := g_rng x4; (try simp only [g_m1, Int32.lt_iff_toInt_lt, Int32.le_iff_toInt_le, ← Int32.toInt_inj, Int32.toInt_add, Int32.toInt_sub, Int32.toInt_mul, Int32.toInt_neg, Int32.reduceToInt, g_bm, g_bm'] at *); omega) | (simp only [g_m1, Int32.lt_iff_toInt_lt, Int32.le_iff_toInt_le, ← Int32.toInt_inj, Int32.toInt_add, Int32.toInt_sub, Int32.toInt_mul, Int32.toInt_neg, Int32.reduceToInt, g_bm, g_bm'] at *; simp at *; omega) | (simp_all; done)
set_option maxRecDepth 100000 in
theorem g_X0_toldOf_v14 (u : qS) (x : Int32) (y : Int32) (x3 : Int32) (x4 : Int32) (a_2 : Nat) (hz8 : 0 ≤ u.1 8 ∧ u.1 8 ≤ 20) (hz9 : 0 ≤ u.1 9 ∧ u.1 9 ≤ 8) (hz10 : 0 ≤ u.1 10 ∧ u.1 10 ≤ 120) (hz12 : 0 ≤ u.1 12 ∧ u.1 12 ≤ 16) (h_k : 0 ≤ x4) (h_v : x4 ≤ u.1 10) (h_n : x3.toInt = (g_ct (cvr u 3) (cvr u 4) x y x4.toNatClampNeg : Int)) (c11_1 : ¬ (u.1 10) ≤ (x4 : Int32)) (ha_2_3_e : u.2.2.2.1 2 (x4 : Int32).toNatClampNeg = some a_2) (hb_9 : 0 ≤ qfd u.2.2.2.2 a_2 3 ∧ qfd u.2.2.2.2 a_2 3 < (u.1 9)) (c25_10 : (qfd u.2.2.2.2 a_2 3 : Int32) = x) (c39_18 : (qfd u.2.2.2.2 a_2 4 : Int32) = y) : (x4 + 1) ≤ u.1 10 := by
  first | omega | ((try simp only [g_m1, Int32.lt_iff_toInt_lt, Int32.le_iff_toInt_le, ← Int32.toInt_inj, Int32.reduceToInt] at *); omega) | ((try have ez1 : (x4 + 1 : Int32).toInt = (x4 : Int32).toInt + (1 : Int32).toInt := g_add (by (try simp only [g_m1, Int32.lt_iff_toInt_lt, Int32.le_iff_toInt_le, ← Int32.toInt_inj, Int32.reduceToInt] at *); omega) (by (try simp only [g_m1, Int32.lt_iff_toInt_lt, Int32.le_iff_toInt_le, ← Int32.toInt_inj, Int32.reduceToInt] at *); omega)); (try simp only [g_m1, Int32.lt_iff_toInt_lt, Int32.le_iff_toInt_le, ← Int32.toInt_inj, Int32.reduceToInt] at *); omega) | ((try simp only [g_m1, Int32.lt_iff_toInt_lt, Int32.le_iff_toInt_le, ← Int32.toInt_inj, Int32.toInt_add, Int32.toInt_sub, Int32.toInt_mul, Int32.toInt_neg, Int32.reduceToInt, g_bm, g_bm'] at *); omega) | (have qr1 := g_rng x; have qr2 := g_rng y; have qr3 := g_rng x3; have qr4 := g_rng x4; (try simp only [g_m1, Int32.lt_iff_toInt_lt, Int32.le_iff_toInt_le, ← Int32.toInt_inj, Int32.toInt_add, Int32.toInt_sub, Int32.toInt_mul, Int32.toInt_neg, Int32.reduceToInt, g_bm, g_bm'] at *); omega) | (simp only [g_m1, Int32.lt_iff_toInt_lt, Int32.le_iff_toInt_le, ← Int32.toInt_inj, Int32.toInt_add, Int32.toInt_sub, Int32.toInt_mul, Int32.toInt_neg, Int32.reduceToInt, g_bm, g_bm'] at *; simp at *; omega) | (simp_all; done)
set_option maxRecDepth 100000 in
theorem g_X0_toldOf_v15 (u : qS) (x : Int32) (y : Int32) (x3 : Int32) (x4 : Int32) (a_2 : Nat) (hz8 : 0 ≤ u.1 8 ∧ u.1 8 ≤ 20) (hz9 : 0 ≤ u.1 9 ∧ u.1 9 ≤ 8) (hz10 : 0 ≤ u.1 10 ∧ u.1 10 ≤ 120) (hz12 : 0 ≤ u.1 12 ∧ u.1 12 ≤ 16) (h_k : 0 ≤ x4) (h_v : x4 ≤ u.1 10) (h_n : x3.toInt = (g_ct (cvr u 3) (cvr u 4) x y x4.toNatClampNeg : Int)) (c11_1 : ¬ (u.1 10) ≤ (x4 : Int32)) (ha_2_3_e : u.2.2.2.1 2 (x4 : Int32).toNatClampNeg = some a_2) (hb_9 : 0 ≤ qfd u.2.2.2.2 a_2 3 ∧ qfd u.2.2.2.2 a_2 3 < (u.1 9)) (c25_10 : (qfd u.2.2.2.2 a_2 3 : Int32) = x) (c39_18 : (qfd u.2.2.2.2 a_2 4 : Int32) = y) : (x3 + 1).toInt = (g_ct (cvr u 3) (cvr u 4) x y (x4 + 1).toNatClampNeg : Int) := by
  have q8 := g_ct_le (cvr u 3) (cvr u 4) x y x4.toNatClampNeg
  have c4 := g_clamp x4
  have q0 : 0 ≤ x4.toInt := (by clear h_n; (try simp only [g_m1, Int32.lt_iff_toInt_lt, Int32.le_iff_toInt_le, ← Int32.toInt_inj, Int32.reduceToInt] at *); omega)
  have q1 : x4.toInt < 120 := (by clear h_n; (try simp only [g_m1, Int32.lt_iff_toInt_lt, Int32.le_iff_toInt_le, ← Int32.toInt_inj, Int32.reduceToInt] at *); omega)
  rw [g_ct_s _ _ _ _ q0 (by omega)]
  have hr9 := (by assumption : u.2.2.2.1 2 (x4 : Int32).toNatClampNeg = some _)
  have z3 : cvr u 3 x4.toNatClampNeg = _ := cvr_at hr9
  have z4 : cvr u 4 x4.toNatClampNeg = _ := cvr_at hr9
  rw [z3, z4]
  split
  · rename_i q; first | exact absurd q.1 (by assumption) | exact absurd q.2 (by assumption) | (have z := (g_up (i := x3) (by omega) (by omega)).1; omega)
  · rename_i q; first | exact (q ⟨by assumption, by assumption⟩).elim | omega
set_option maxRecDepth 100000 in
theorem g_X0_toldOf_v16 (u : qS) (x : Int32) (y : Int32) (x3 : Int32) (x4 : Int32) (a_2 : Nat) (hz8 : 0 ≤ u.1 8 ∧ u.1 8 ≤ 20) (hz9 : 0 ≤ u.1 9 ∧ u.1 9 ≤ 8) (hz10 : 0 ≤ u.1 10 ∧ u.1 10 ≤ 120) (hz12 : 0 ≤ u.1 12 ∧ u.1 12 ≤ 16) (h_k : 0 ≤ x4) (h_v : x4 ≤ u.1 10) (h_n : x3.toInt = (g_ct (cvr u 3) (cvr u 4) x y x4.toNatClampNeg : Int)) (c11_1 : ¬ (u.1 10) ≤ (x4 : Int32)) (ha_2_3_e : u.2.2.2.1 2 (x4 : Int32).toNatClampNeg = some a_2) (hb_9 : 0 ≤ qfd u.2.2.2.2 a_2 3 ∧ qfd u.2.2.2.2 a_2 3 < (u.1 9)) (c25_10 : (qfd u.2.2.2.2 a_2 3 : Int32) = x) (c39_18 : (qfd u.2.2.2.2 a_2 4 : Int32) = y) : ((u.1 10).toInt - (x4 + 1).toInt).toNat < ((u.1 10).toInt - x4.toInt).toNat := by
  first | omega | ((try simp only [g_m1, Int32.lt_iff_toInt_lt, Int32.le_iff_toInt_le, ← Int32.toInt_inj, Int32.reduceToInt] at *); omega) | ((try have ez1 : (x4 + 1 : Int32).toInt = (x4 : Int32).toInt + (1 : Int32).toInt := g_add (by (try simp only [g_m1, Int32.lt_iff_toInt_lt, Int32.le_iff_toInt_le, ← Int32.toInt_inj, Int32.reduceToInt] at *); omega) (by (try simp only [g_m1, Int32.lt_iff_toInt_lt, Int32.le_iff_toInt_le, ← Int32.toInt_inj, Int32.reduceToInt] at *); omega)); (try simp only [g_m1, Int32.lt_iff_toInt_lt, Int32.le_iff_toInt_le, ← Int32.toInt_inj, Int32.reduceToInt] at *); omega) | ((try simp only [g_m1, Int32.lt_iff_toInt_lt, Int32.le_iff_toInt_le, ← Int32.toInt_inj, Int32.toInt_add, Int32.toInt_sub, Int32.toInt_mul, Int32.toInt_neg, Int32.reduceToInt, g_bm, g_bm'] at *); omega) | (have qr1 := g_rng x; have qr2 := g_rng y; have qr3 := g_rng x3; have qr4 := g_rng x4; (try simp only [g_m1, Int32.lt_iff_toInt_lt, Int32.le_iff_toInt_le, ← Int32.toInt_inj, Int32.toInt_add, Int32.toInt_sub, Int32.toInt_mul, Int32.toInt_neg, Int32.reduceToInt, g_bm, g_bm'] at *); omega) | (simp only [g_m1, Int32.lt_iff_toInt_lt, Int32.le_iff_toInt_le, ← Int32.toInt_inj, Int32.toInt_add, Int32.toInt_sub, Int32.toInt_mul, Int32.toInt_neg, Int32.reduceToInt, g_bm, g_bm'] at *; simp at *; omega) | (simp_all; done)
set_option maxRecDepth 100000 in
theorem g_X0_toldOf_v17 (u : qS) (x : Int32) (y : Int32) (hz8 : 0 ≤ u.1 8 ∧ u.1 8 ≤ 20) (hz9 : 0 ≤ u.1 9 ∧ u.1 9 ≤ 8) (hz10 : 0 ≤ u.1 10 ∧ u.1 10 ≤ 120) (hz12 : 0 ≤ u.1 12 ∧ u.1 12 ≤ 16) : 0 ≤ (0 : Int32) := by
  first | omega | ((try simp only [g_m1, Int32.lt_iff_toInt_lt, Int32.le_iff_toInt_le, ← Int32.toInt_inj, Int32.reduceToInt] at *); omega) | ((try simp only [g_m1, Int32.lt_iff_toInt_lt, Int32.le_iff_toInt_le, ← Int32.toInt_inj, Int32.reduceToInt] at *); omega) | ((try simp only [g_m1, Int32.lt_iff_toInt_lt, Int32.le_iff_toInt_le, ← Int32.toInt_inj, Int32.toInt_add, Int32.toInt_sub, Int32.toInt_mul, Int32.toInt_neg, Int32.reduceToInt, g_bm, g_bm'] at *); omega) | (have qr1 := g_rng x; have qr2 := g_rng y; (try simp only [g_m1, Int32.lt_iff_toInt_lt, Int32.le_iff_toInt_le, ← Int32.toInt_inj, Int32.toInt_add, Int32.toInt_sub, Int32.toInt_mul, Int32.toInt_neg, Int32.reduceToInt, g_bm, g_bm'] at *); omega) | (simp only [g_m1, Int32.lt_iff_toInt_lt, Int32.le_iff_toInt_le, ← Int32.toInt_inj, Int32.toInt_add, Int32.toInt_sub, Int32.toInt_mul, Int32.toInt_neg, Int32.reduceToInt, g_bm, g_bm'] at *; simp at *; omega) | (simp_all; done)
set_option maxRecDepth 100000 in
theorem g_X0_toldOf_v18 (u : qS) (x : Int32) (y : Int32) (hz8 : 0 ≤ u.1 8 ∧ u.1 8 ≤ 20) (hz9 : 0 ≤ u.1 9 ∧ u.1 9 ≤ 8) (hz10 : 0 ≤ u.1 10 ∧ u.1 10 ≤ 120) (hz12 : 0 ≤ u.1 12 ∧ u.1 12 ≤ 16) : (0 : Int32) ≤ u.1 10 := by
  first | omega | ((try simp only [g_m1, Int32.lt_iff_toInt_lt, Int32.le_iff_toInt_le, ← Int32.toInt_inj, Int32.reduceToInt] at *); omega) | ((try simp only [g_m1, Int32.lt_iff_toInt_lt, Int32.le_iff_toInt_le, ← Int32.toInt_inj, Int32.reduceToInt] at *); omega) | ((try simp only [g_m1, Int32.lt_iff_toInt_lt, Int32.le_iff_toInt_le, ← Int32.toInt_inj, Int32.toInt_add, Int32.toInt_sub, Int32.toInt_mul, Int32.toInt_neg, Int32.reduceToInt, g_bm, g_bm'] at *); omega) | (have qr1 := g_rng x; have qr2 := g_rng y; (try simp only [g_m1, Int32.lt_iff_toInt_lt, Int32.le_iff_toInt_le, ← Int32.toInt_inj, Int32.toInt_add, Int32.toInt_sub, Int32.toInt_mul, Int32.toInt_neg, Int32.reduceToInt, g_bm, g_bm'] at *); omega) | (simp only [g_m1, Int32.lt_iff_toInt_lt, Int32.le_iff_toInt_le, ← Int32.toInt_inj, Int32.toInt_add, Int32.toInt_sub, Int32.toInt_mul, Int32.toInt_neg, Int32.reduceToInt, g_bm, g_bm'] at *; simp at *; omega) | (simp_all; done)
set_option maxRecDepth 100000 in
theorem g_X0_toldOf_v19 (u : qS) (x : Int32) (y : Int32) (hz8 : 0 ≤ u.1 8 ∧ u.1 8 ≤ 20) (hz9 : 0 ≤ u.1 9 ∧ u.1 9 ≤ 8) (hz10 : 0 ≤ u.1 10 ∧ u.1 10 ≤ 120) (hz12 : 0 ≤ u.1 12 ∧ u.1 12 ≤ 16) : (0 : Int32).toInt = (g_ct (cvr u 3) (cvr u 4) x y (0 : Int32).toNatClampNeg : Int) := by
  rfl
set_option maxHeartbeats 1000000 in
set_option maxRecDepth 100000 in
theorem g_X0_toldOf (l : Launch) (E : qE) (A : Nat → Prop) (u : qS) (x : Int32) (y : Int32) (hI : IC E u) : Met l yX0_toldOf (uws yX0_toldOf cX0_toldOf 5 (some .int)) (qR 0 0 0) (qPc E A 0 u [.ref (E.2.2 99), .int x, .int y]) (qQi E A 0 (fun r u1 => u1 = u ∧ (r.toInt = (g_ct (cvr u 3) (cvr u 4) x y (u.1 10).toNatClampNeg : Int)))) 0 0 A := by
  refine q_met (own := RX0) (f := 0) [.ref (E.2.2 99), .int x, .int y] (by decide) (Nat.le_of_ble_eq_true rfl) rfl ?_
  intro p0 e0 s0 m0 bl0 me0 cd0 ls hF hr hlocks hU hS hA hl
  have hl : lv_has ls 5 [(0, .ref (E.2.2 99)), (1, .int x), (2, .int y)] := hl
  have hz8 : 0 ≤ u.1 8 ∧ u.1 8 ≤ 20 := hI.1.s8
  have hz9 : 0 ≤ u.1 9 ∧ u.1 9 ≤ 8 := hI.1.s9
  have hz10 : 0 ≤ u.1 10 ∧ u.1 10 ≤ 120 := hI.1.s10
  have hz12 : 0 ≤ u.1 12 ∧ u.1 12 ≤ 16 := hI.1.s12
  have main : ∀ n : Nat, (∀ (x3 : Int32) (x4 : Int32) (uc : qS) (H : Heap) (locs : List Loc) (ls : Array Slot) (huc : u = uc) (h_k : 0 ≤ x4) (h_v : x4 ≤ u.1 10) (h_n : x3.toInt = (g_ct (cvr u 3) (cvr u 4) x y x4.toNatClampNeg : Int)), ((u.1 10).toInt - x4.toInt).toNat < n → qH E A 0 uc s0 H → va_S A s0.heap H locs → lv_has ls 5 [(0, .ref (E.2.2 99)), (1, .int x), (2, .int y), (3, .int x3), (4, .int x4)] → W p0 l e0 (qR 0 0 0) s0 m0 ([.ref (E.2.2 99), .int x, .int y] : List Value).toArray bl0 me0 cd0 H locs 0 0 (MQ bl0 (qQi E A 0 (fun r u1 => u1 = u ∧ (r.toInt = (g_ct (cvr u 3) (cvr u 4) x y (u.1 10).toNatClampNeg : Int)))) ([.ref (E.2.2 99), .int x, .int y] : List Value).toArray s0 0 0 A) (F0 m0 5 ls [])) := by
    intro n
    induction n with
    | zero => exact fun _ _ _ _ _ _ _ _ _ _ hmu => absurd hmu (Nat.not_lt_zero _)
    | succ n ih =>
      intro x3 x4 uc H locs ls huc h_k h_v h_n hmu hU hS hl
      subst huc
      refine lv_iload hF.1 hF.2.1 dX0_toldOf_5 (lv_at hl 4 rfl) ?_
      refine lv_aload_n hF.1 hF.2.1 dX0_toldOf_7 rfl (lv_at hl 0 rfl) ?_
      refine q_get (v := .int (u.1 10)) hF hU dX0_toldOf_8 1 0 10 10 99 rfl rfl rfl rfl inX0 (by decide) (by decide) w_171 rfl rfl ?_
      refine lv_icmp_ge (tgt := 51) hF.1 hF.2.1 dX0_toldOf_11 (by decide) (fun c11_1 => ?_) (fun c11_1 => ?_)
      · refine lv_iload_n hF.1 hF.2.1 dX0_toldOf_51 rfl (lv_at hl 3 rfl) ?_
        exact q_iret hF hr rfl hlocks hU hS dX0_toldOf_52 ⟨rfl, (g_X0_toldOf_v0 u x y x3 x4 hz8 hz9 hz10 hz12 h_k h_v h_n c11_1)⟩
      · refine lv_aload_n hF.1 hF.2.1 dX0_toldOf_14 rfl (lv_at hl 0 rfl) ?_
        refine q_get (v := .ref (E.2.2 2)) hF hU dX0_toldOf_15 1 0 2 2 99 rfl rfl rfl rfl inX0 (by decide) (by decide) w_148 rfl rfl ?_
        refine lv_iload hF.1 hF.2.1 dX0_toldOf_18 (lv_at hl 4 rfl) ?_
        obtain ⟨a_2, ha_2_3_e, ha_2_3⟩ := hI.r2 x4 (g_X0_toldOf_v1 u x y x3 x4 hz8 hz9 hz10 hz12 h_k h_v h_n c11_1)
        refine q_aald (v := .ref a_2) hF hU dX0_toldOf_20 2 2 6 rfl rfl (by decide) rfl (g_X0_toldOf_v2 u x y x3 x4 hz8 hz9 hz10 hz12 h_k h_v h_n c11_1) (by rw [ha_2_3_e]; rfl) ?_
        obtain ⟨k_4, fs_5, hd_7, hv_8, hv_8_2, hv_8_3, -⟩ := hI.vf ((ha_2_3).rf) 3 (by decide)
        refine q_getd (v := .int (qfd u.2.2.2.2 a_2 3)) hF hU dX0_toldOf_21 k_4 10 3 hd_7 rfl inX10 (by decide) w_598 rfl hv_8 ?_
        have hb_9 : 0 ≤ qfd u.2.2.2.2 a_2 3 ∧ qfd u.2.2.2.2 a_2 3 < (u.1 9) := hv_8_3 rfl
        refine lv_iload_n hF.1 hF.2.1 dX0_toldOf_24 rfl (lv_at hl 1 rfl) ?_
        refine lv_icmp_ne (tgt := 45) hF.1 hF.2.1 dX0_toldOf_25 (by decide) (fun c25_10 => ?_) (fun c25_10 => ?_)
        · refine lv_iinc (v := x4 + 1) (lv' := [(4, .int (x4 + 1)), (0, .ref (E.2.2 99)), (1, .int x), (2, .int y), (3, .int x3)]) hF.1 hF.2.1 dX0_toldOf_45 hl (k := 4) rfl rfl (by decide) rfl (fun ls hl => ?_)
          refine lv_goto (tgt := 5) hF.1 hF.2.1 dX0_toldOf_48 (by decide) ?_
          exact ih x3 (x4 + 1) u _ _ _ rfl  (g_X0_toldOf_v3 u x y x3 x4 a_2 hz8 hz9 hz10 hz12 h_k h_v h_n c11_1 ha_2_3_e hb_9 c25_10) (g_X0_toldOf_v4 u x y x3 x4 a_2 hz8 hz9 hz10 hz12 h_k h_v h_n c11_1 ha_2_3_e hb_9 c25_10) (g_X0_toldOf_v5 u x y x3 x4 a_2 hz8 hz9 hz10 hz12 h_k h_v h_n c11_1 ha_2_3_e hb_9 c25_10) (Nat.lt_of_lt_of_le (g_X0_toldOf_v6 u x y x3 x4 a_2 hz8 hz9 hz10 hz12 h_k h_v h_n c11_1 ha_2_3_e hb_9 c25_10) (Nat.lt_succ_iff.mp hmu)) hU hS (lv_sub hl [1, 2, 3, 4, 0] rfl)
        · refine lv_aload_n hF.1 hF.2.1 dX0_toldOf_28 rfl (lv_at hl 0 rfl) ?_
          refine q_get (v := .ref (E.2.2 2)) hF hU dX0_toldOf_29 1 0 2 2 99 rfl rfl rfl rfl inX0 (by decide) (by decide) w_148 rfl rfl ?_
          refine lv_iload hF.1 hF.2.1 dX0_toldOf_32 (lv_at hl 4 rfl) ?_
          refine q_aald (v := .ref a_2) hF hU dX0_toldOf_34 2 2 6 rfl rfl (by decide) rfl (g_X0_toldOf_v8 u x y x3 x4 a_2 hz8 hz9 hz10 hz12 h_k h_v h_n c11_1 ha_2_3_e hb_9 c25_10) (by rw [ha_2_3_e]; rfl) ?_
          obtain ⟨k_13, fs_14, hd_16, hv_17, hv_17_2, hv_17_3, -⟩ := hI.vf ((ha_2_3).rf) 4 (by decide)
          refine q_getd (v := .int (qfd u.2.2.2.2 a_2 4)) hF hU dX0_toldOf_35 k_13 10 4 hd_16 rfl inX10 (by decide) w_603 rfl hv_17 ?_
          refine lv_iload_n hF.1 hF.2.1 dX0_toldOf_38 rfl (lv_at hl 2 rfl) ?_
          refine lv_icmp_ne (tgt := 45) hF.1 hF.2.1 dX0_toldOf_39 (by decide) (fun c39_18 => ?_) (fun c39_18 => ?_)
          · refine lv_iinc (v := x4 + 1) (lv' := [(4, .int (x4 + 1)), (0, .ref (E.2.2 99)), (1, .int x), (2, .int y), (3, .int x3)]) hF.1 hF.2.1 dX0_toldOf_45 hl (k := 4) rfl rfl (by decide) rfl (fun ls hl => ?_)
            refine lv_goto (tgt := 5) hF.1 hF.2.1 dX0_toldOf_48 (by decide) ?_
            exact ih x3 (x4 + 1) u _ _ _ rfl  (g_X0_toldOf_v9 u x y x3 x4 a_2 hz8 hz9 hz10 hz12 h_k h_v h_n c11_1 ha_2_3_e hb_9 c25_10 c39_18) (g_X0_toldOf_v10 u x y x3 x4 a_2 hz8 hz9 hz10 hz12 h_k h_v h_n c11_1 ha_2_3_e hb_9 c25_10 c39_18) (g_X0_toldOf_v11 u x y x3 x4 a_2 hz8 hz9 hz10 hz12 h_k h_v h_n c11_1 ha_2_3_e hb_9 c25_10 c39_18) (Nat.lt_of_lt_of_le (g_X0_toldOf_v12 u x y x3 x4 a_2 hz8 hz9 hz10 hz12 h_k h_v h_n c11_1 ha_2_3_e hb_9 c25_10 c39_18) (Nat.lt_succ_iff.mp hmu)) hU hS (lv_sub hl [1, 2, 3, 4, 0] rfl)
          · refine lv_iinc (v := x3 + 1) (lv' := [(3, .int (x3 + 1)), (0, .ref (E.2.2 99)), (1, .int x), (2, .int y), (4, .int x4)]) hF.1 hF.2.1 dX0_toldOf_42 hl (k := 3) rfl rfl (by decide) rfl (fun ls hl => ?_)
            refine lv_iinc (v := x4 + 1) (lv' := [(4, .int (x4 + 1)), (3, .int (x3 + 1)), (0, .ref (E.2.2 99)), (1, .int x), (2, .int y)]) hF.1 hF.2.1 dX0_toldOf_45 hl (k := 4) rfl rfl (by decide) rfl (fun ls hl => ?_)
            refine lv_goto (tgt := 5) hF.1 hF.2.1 dX0_toldOf_48 (by decide) ?_
            exact ih (x3 + 1) (x4 + 1) u _ _ _ rfl  (g_X0_toldOf_v13 u x y x3 x4 a_2 hz8 hz9 hz10 hz12 h_k h_v h_n c11_1 ha_2_3_e hb_9 c25_10 c39_18) (g_X0_toldOf_v14 u x y x3 x4 a_2 hz8 hz9 hz10 hz12 h_k h_v h_n c11_1 ha_2_3_e hb_9 c25_10 c39_18) (g_X0_toldOf_v15 u x y x3 x4 a_2 hz8 hz9 hz10 hz12 h_k h_v h_n c11_1 ha_2_3_e hb_9 c25_10 c39_18) (Nat.lt_of_lt_of_le (g_X0_toldOf_v16 u x y x3 x4 a_2 hz8 hz9 hz10 hz12 h_k h_v h_n c11_1 ha_2_3_e hb_9 c25_10 c39_18) (Nat.lt_succ_iff.mp hmu)) hU hS (lv_sub hl [2, 3, 4, 1, 0] rfl)
  refine lv_iconst (v := 0) hF.1 hF.2.1 dX0_toldOf_0 (by decide) ?_
  refine lv_istore_n (lv' := [(3, .int 0), (0, .ref (E.2.2 99)), (1, .int x), (2, .int y)]) hF.1 hF.2.1 dX0_toldOf_1 rfl hl (by decide) rfl (fun ls hl => ?_)
  refine lv_iconst (v := 0) hF.1 hF.2.1 dX0_toldOf_2 (by decide) ?_
  refine lv_istore (lv' := [(4, .int 0), (3, .int 0), (0, .ref (E.2.2 99)), (1, .int x), (2, .int y)]) hF.1 hF.2.1 dX0_toldOf_3 hl (by decide) rfl (fun ls hl => ?_)
  exact (main _) (0 : Int32) (0 : Int32) u _ _ _ rfl  (g_X0_toldOf_v17 u x y hz8 hz9 hz10 hz12) (g_X0_toldOf_v18 u x y hz8 hz9 hz10 hz12) (g_X0_toldOf_v19 u x y hz8 hz9 hz10 hz12) (Nat.lt_succ_self _) hU hS (lv_sub hl [2, 3, 4, 1, 0] rfl)
set_option maxRecDepth 100000 in
theorem g_X0_wayFromHome_v0 (u : qS) (x : Int32) (y : Int32) (hx : 0 ≤ x ∧ x < u.1 9) (hy : 0 ≤ y ∧ y < u.1 8) (hz8 : 0 ≤ u.1 8 ∧ u.1 8 ≤ 20) (hz9 : 0 ≤ u.1 9 ∧ u.1 9 ≤ 8) (hz10 : 0 ≤ u.1 10 ∧ u.1 10 ≤ 120) (hz12 : 0 ≤ u.1 12 ∧ u.1 12 ≤ 16) : 0 ≤ x ∧ x < (u.1 9) := by
  first | omega | ((try simp only [g_m1, Int32.lt_iff_toInt_lt, Int32.le_iff_toInt_le, ← Int32.toInt_inj, Int32.reduceToInt] at *); omega) | ((try simp only [g_m1, Int32.lt_iff_toInt_lt, Int32.le_iff_toInt_le, ← Int32.toInt_inj, Int32.reduceToInt] at *); omega) | ((try simp only [g_m1, Int32.lt_iff_toInt_lt, Int32.le_iff_toInt_le, ← Int32.toInt_inj, Int32.toInt_add, Int32.toInt_sub, Int32.toInt_mul, Int32.toInt_neg, Int32.reduceToInt, g_bm, g_bm'] at *); omega) | (have qr1 := g_rng x; have qr2 := g_rng y; (try simp only [g_m1, Int32.lt_iff_toInt_lt, Int32.le_iff_toInt_le, ← Int32.toInt_inj, Int32.toInt_add, Int32.toInt_sub, Int32.toInt_mul, Int32.toInt_neg, Int32.reduceToInt, g_bm, g_bm'] at *); omega) | (simp only [g_m1, Int32.lt_iff_toInt_lt, Int32.le_iff_toInt_le, ← Int32.toInt_inj, Int32.toInt_add, Int32.toInt_sub, Int32.toInt_mul, Int32.toInt_neg, Int32.reduceToInt, g_bm, g_bm'] at *; simp at *; omega) | (simp_all; done)
set_option maxRecDepth 100000 in
theorem g_X0_wayFromHome_v1 (u : qS) (x : Int32) (y : Int32) (hx : 0 ≤ x ∧ x < u.1 9) (hy : 0 ≤ y ∧ y < u.1 8) (hz8 : 0 ≤ u.1 8 ∧ u.1 8 ≤ 20) (hz9 : 0 ≤ u.1 9 ∧ u.1 9 ≤ 8) (hz10 : 0 ≤ u.1 10 ∧ u.1 10 ≤ 120) (hz12 : 0 ≤ u.1 12 ∧ u.1 12 ≤ 16) : vp_in (x) 8 := by
  refine g_in ?_ ?_ <;> ((try simp only [g_m1, Int32.lt_iff_toInt_lt, Int32.le_iff_toInt_le, ← Int32.toInt_inj, Int32.toInt_add, Int32.toInt_sub, Int32.toInt_mul, Int32.toInt_neg, Int32.reduceToInt, g_bm, g_bm'] at *); omega)
set_option maxRecDepth 100000 in
theorem g_X0_wayFromHome_v2 (u : qS) (x : Int32) (y : Int32) (a_1 : Nat) (hx : 0 ≤ x ∧ x < u.1 9) (hy : 0 ≤ y ∧ y < u.1 8) (hz8 : 0 ≤ u.1 8 ∧ u.1 8 ≤ 20) (hz9 : 0 ≤ u.1 9 ∧ u.1 9 ≤ 8) (hz10 : 0 ≤ u.1 10 ∧ u.1 10 ≤ 120) (hz12 : 0 ≤ u.1 12 ∧ u.1 12 ≤ 16) (ha_1_2_e : u.2.2.2.1 1 (x : Int32).toNatClampNeg = some a_1) : 0 ≤ y ∧ y < (u.1 8) := by
  first | omega | ((try simp only [g_m1, Int32.lt_iff_toInt_lt, Int32.le_iff_toInt_le, ← Int32.toInt_inj, Int32.reduceToInt] at *); omega) | ((try simp only [g_m1, Int32.lt_iff_toInt_lt, Int32.le_iff_toInt_le, ← Int32.toInt_inj, Int32.reduceToInt] at *); omega) | ((try simp only [g_m1, Int32.lt_iff_toInt_lt, Int32.le_iff_toInt_le, ← Int32.toInt_inj, Int32.toInt_add, Int32.toInt_sub, Int32.toInt_mul, Int32.toInt_neg, Int32.reduceToInt, g_bm, g_bm'] at *); omega) | (have qr1 := g_rng x; have qr2 := g_rng y; (try simp only [g_m1, Int32.lt_iff_toInt_lt, Int32.le_iff_toInt_le, ← Int32.toInt_inj, Int32.toInt_add, Int32.toInt_sub, Int32.toInt_mul, Int32.toInt_neg, Int32.reduceToInt, g_bm, g_bm'] at *); omega) | (simp only [g_m1, Int32.lt_iff_toInt_lt, Int32.le_iff_toInt_le, ← Int32.toInt_inj, Int32.toInt_add, Int32.toInt_sub, Int32.toInt_mul, Int32.toInt_neg, Int32.reduceToInt, g_bm, g_bm'] at *; simp at *; omega) | (simp_all; done)
set_option maxRecDepth 100000 in
theorem g_X0_wayFromHome_v3 (u : qS) (x : Int32) (y : Int32) (a_1 : Nat) (hx : 0 ≤ x ∧ x < u.1 9) (hy : 0 ≤ y ∧ y < u.1 8) (hz8 : 0 ≤ u.1 8 ∧ u.1 8 ≤ 20) (hz9 : 0 ≤ u.1 9 ∧ u.1 9 ≤ 8) (hz10 : 0 ≤ u.1 10 ∧ u.1 10 ≤ 120) (hz12 : 0 ≤ u.1 12 ∧ u.1 12 ≤ 16) (ha_1_2_e : u.2.2.2.1 1 (x : Int32).toNatClampNeg = some a_1) : vp_in (y) 20 := by
  refine g_in ?_ ?_ <;> ((try simp only [g_m1, Int32.lt_iff_toInt_lt, Int32.le_iff_toInt_le, ← Int32.toInt_inj, Int32.toInt_add, Int32.toInt_sub, Int32.toInt_mul, Int32.toInt_neg, Int32.reduceToInt, g_bm, g_bm'] at *); omega)
set_option maxRecDepth 100000 in
theorem g_X0_wayFromHome_v4 (u : qS) (x : Int32) (y : Int32) (a_1 : Nat) (a_3 : Nat) (r_15 : Int32) (hx : 0 ≤ x ∧ x < u.1 9) (hy : 0 ≤ y ∧ y < u.1 8) (hz8 : 0 ≤ u.1 8 ∧ u.1 8 ≤ 20) (hz9 : 0 ≤ u.1 9 ∧ u.1 9 ≤ 8) (hz10 : 0 ≤ u.1 10 ∧ u.1 10 ≤ 120) (hz12 : 0 ≤ u.1 12 ∧ u.1 12 ≤ 16) (ha_1_2_e : u.2.2.2.1 1 (x : Int32).toNatClampNeg = some a_1) (ha_3_4_e : u.2.2.2.1 0 (y : Int32).toNatClampNeg = some a_3) (hw_14 : r_15 = c_ab (qpd u.2.2.2.2 a_1 0 - qpd u.2.2.2.2 (qsp u.2.2.2.2 a_3) 0) + c_ab (qpd u.2.2.2.2 a_1 1 - qpd u.2.2.2.2 (qsp u.2.2.2.2 a_3) 1)) : (r_15 : Int32) = c_wh u x y := by
  have h1 := (by assumption : u.2.2.2.1 1 (x : Int32).toNatClampNeg = some _)
  have h0 := (by assumption : u.2.2.2.1 0 (y : Int32).toNatClampNeg = some _)
  unfold c_wh; rw [chm_at (j := 0) h1, chm_at (j := 1) h1, cpl_at (j := 0) h0, cpl_at (j := 1) h0]; assumption
set_option maxHeartbeats 1000000 in
set_option maxRecDepth 100000 in
theorem g_X0_wayFromHome (l : Launch) (E : qE) (A : Nat → Prop) (u : qS) (x : Int32) (y : Int32) (hI : IC E u) (hx : 0 ≤ x ∧ x < u.1 9) (hy : 0 ≤ y ∧ y < u.1 8) : Met l yX0_wayFromHome (uws yX0_wayFromHome cX0_wayFromHome 3 (some .int)) (qR 3 0 0) (qPc E A 0 u [.ref (E.2.2 99), .int x, .int y]) (qQi E A 0 (fun r u1 => u1 = u ∧ (r = c_wh u x y))) 0 0 A := by
  refine q_met (own := RX0) (f := 3) [.ref (E.2.2 99), .int x, .int y] (by decide) (Nat.le_of_ble_eq_true rfl) rfl ?_
  intro p0 e0 s0 m0 bl0 me0 cd0 ls hF hr hlocks hU hS hA hl
  have hl : lv_has ls 3 [(0, .ref (E.2.2 99)), (1, .int x), (2, .int y)] := hl
  have hz8 : 0 ≤ u.1 8 ∧ u.1 8 ≤ 20 := hI.1.s8
  have hz9 : 0 ≤ u.1 9 ∧ u.1 9 ≤ 8 := hI.1.s9
  have hz10 : 0 ≤ u.1 10 ∧ u.1 10 ≤ 120 := hI.1.s10
  have hz12 : 0 ≤ u.1 12 ∧ u.1 12 ≤ 16 := hI.1.s12
  refine lv_aload_n hF.1 hF.2.1 dX0_wayFromHome_0 rfl (lv_at hl 0 rfl) ?_
  refine q_get (v := .ref (E.2.2 1)) hF hU dX0_wayFromHome_1 1 0 1 1 99 rfl rfl rfl rfl inX0 (by decide) (by decide) w_146 rfl rfl ?_
  refine lv_iload_n hF.1 hF.2.1 dX0_wayFromHome_4 rfl (lv_at hl 1 rfl) ?_
  obtain ⟨a_1, ha_1_2_e, ha_1_2⟩ := hI.r1 x (g_X0_wayFromHome_v0 u x y hx hy hz8 hz9 hz10 hz12)
  refine q_aald (v := .ref a_1) hF hU dX0_wayFromHome_5 1 1 5 rfl rfl (by decide) rfl (g_X0_wayFromHome_v1 u x y hx hy hz8 hz9 hz10 hz12) (by rw [ha_1_2_e]; rfl) ?_
  refine lv_aload_n hF.1 hF.2.1 dX0_wayFromHome_6 rfl (lv_at hl 0 rfl) ?_
  refine q_get (v := .ref (E.2.2 0)) hF hU dX0_wayFromHome_7 1 0 0 0 99 rfl rfl rfl rfl inX0 (by decide) (by decide) w_142 rfl rfl ?_
  refine lv_iload_n hF.1 hF.2.1 dX0_wayFromHome_10 rfl (lv_at hl 2 rfl) ?_
  obtain ⟨a_3, ha_3_4_e, ha_3_4⟩ := hI.r0 y (g_X0_wayFromHome_v2 u x y a_1 hx hy hz8 hz9 hz10 hz12 ha_1_2_e)
  refine q_aald (v := .ref a_3) hF hU dX0_wayFromHome_11 0 0 4 rfl rfl (by decide) rfl (g_X0_wayFromHome_v3 u x y a_1 hx hy hz8 hz9 hz10 hz12 ha_1_2_e) (by rw [ha_3_4_e]; rfl) ?_
  obtain ⟨k_5, fs_6, hd_8, hv_9, hv_9_r⟩ := hI.spf ha_3_4
  refine q_getd (v := .ref (qsp u.2.2.2.2 a_3)) hF hU dX0_wayFromHome_12 k_5 7 0 hd_8 rfl inX7 (by decide) w_521 rfl hv_9 ?_
  have hM9 := g_X4_wayTo l E A u a_1 (qsp u.2.2.2.2 a_3) hI ha_1_2 hv_9_r
  obtain ⟨k_10, fs_11, hd_12⟩ := id (ha_1_2)
  have hR9 := q_runVd (l := l) (e := e0) (below := bl0) (meth := me0) (R := qR 3 0 0) (cells := 0) (slots := 0) (st0 := [.ref (qsp u.2.2.2.2 a_3), .ref a_1]) (rest := []) hF hU hS hA 1 k_10 4 hd_12 rfl hM9 w_1099 w_881 w_882 w_109 w_883 (by decide +kernel) ⟨Nat.le_of_ble_eq_true rfl, Nat.le_of_ble_eq_true rfl⟩ dX0_wayFromHome_15 rfl hl.1 rfl (Nat.le_of_ble_eq_true rfl) ⟨Nat.le_of_ble_eq_true rfl, Nat.le_of_ble_eq_true rfl⟩
  refine q_calli hR9 hU.2.2.2 hS (fun r_15 u_13 H locs hw_14 hU hS => ?_)
  obtain ⟨hw_14_e, hw_14⟩ := hw_14
  rw [hw_14_e] at hU
  have hw_14 : r_15 = c_ab (qpd u.2.2.2.2 a_1 0 - qpd u.2.2.2.2 (qsp u.2.2.2.2 a_3) 0) + c_ab (qpd u.2.2.2.2 a_1 1 - qpd u.2.2.2.2 (qsp u.2.2.2.2 a_3) 1) := hw_14
  exact q_iret hF hr rfl hlocks hU hS dX0_wayFromHome_18 ⟨rfl, (g_X0_wayFromHome_v4 u x y a_1 a_3 r_15 hx hy hz8 hz9 hz10 hz12 ha_1_2_e ha_3_4_e hw_14)⟩
set_option maxRecDepth 100000 in
theorem g_X0_isTooNear_v0 (u : qS) (v : Nat) (x : Int32) (y : Int32) (r_6 : Int32) (hx : 0 ≤ x ∧ x < u.1 8) (hz8 : 0 ≤ u.1 8 ∧ u.1 8 ≤ 20) (hz9 : 0 ≤ u.1 9 ∧ u.1 9 ≤ 8) (hz10 : 0 ≤ u.1 10 ∧ u.1 10 ≤ 120) (hz12 : 0 ≤ u.1 12 ∧ u.1 12 ≤ 16) (hr_6 : r_6 = (if 0 ≤ ((qfd u.2.2.2.2 v 4) - y : Int32) then ((qfd u.2.2.2.2 v 4) - y) else 0 - ((qfd u.2.2.2.2 v 4) - y))) (hb_12 : 0 ≤ qfd u.2.2.2.2 v 2 ∧ qfd u.2.2.2.2 v 2 < (u.1 8)) (c16_13 : ¬ (qfd u.2.2.2.2 v 2 : Int32) = x) : 0 ≤ (qfd u.2.2.2.2 v 2) ∧ (qfd u.2.2.2.2 v 2) < (u.1 8) := by
  first | omega | ((try simp only [g_m1, Int32.lt_iff_toInt_lt, Int32.le_iff_toInt_le, ← Int32.toInt_inj, Int32.reduceToInt] at *); omega) | ((try have ez0 : ((qfd u.2.2.2.2 v 4) - y : Int32).toInt = (qfd u.2.2.2.2 v 4 : Int32).toInt - (y : Int32).toInt := g_sub (by (try simp only [g_m1, Int32.lt_iff_toInt_lt, Int32.le_iff_toInt_le, ← Int32.toInt_inj, Int32.reduceToInt] at *); omega) (by (try simp only [g_m1, Int32.lt_iff_toInt_lt, Int32.le_iff_toInt_le, ← Int32.toInt_inj, Int32.reduceToInt] at *); omega)); (try simp only [g_m1, Int32.lt_iff_toInt_lt, Int32.le_iff_toInt_le, ← Int32.toInt_inj, Int32.reduceToInt] at *); omega) | ((try simp only [g_m1, Int32.lt_iff_toInt_lt, Int32.le_iff_toInt_le, ← Int32.toInt_inj, Int32.toInt_add, Int32.toInt_sub, Int32.toInt_mul, Int32.toInt_neg, Int32.reduceToInt, g_bm, g_bm'] at *); omega) | (have qr2 := g_rng x; have qr3 := g_rng y; have qr4 := g_rng r_6; (try simp only [g_m1, Int32.lt_iff_toInt_lt, Int32.le_iff_toInt_le, ← Int32.toInt_inj, Int32.toInt_add, Int32.toInt_sub, Int32.toInt_mul, Int32.toInt_neg, Int32.reduceToInt, g_bm, g_bm'] at *); omega) | (simp only [g_m1, Int32.lt_iff_toInt_lt, Int32.le_iff_toInt_le, ← Int32.toInt_inj, Int32.toInt_add, Int32.toInt_sub, Int32.toInt_mul, Int32.toInt_neg, Int32.reduceToInt, g_bm, g_bm'] at *; simp at *; omega) | (simp_all; done)
set_option maxRecDepth 100000 in
theorem g_X0_isTooNear_v1 (u : qS) (v : Nat) (x : Int32) (y : Int32) (r_6 : Int32) (hx : 0 ≤ x ∧ x < u.1 8) (hz8 : 0 ≤ u.1 8 ∧ u.1 8 ≤ 20) (hz9 : 0 ≤ u.1 9 ∧ u.1 9 ≤ 8) (hz10 : 0 ≤ u.1 10 ∧ u.1 10 ≤ 120) (hz12 : 0 ≤ u.1 12 ∧ u.1 12 ≤ 16) (hr_6 : r_6 = (if 0 ≤ ((qfd u.2.2.2.2 v 4) - y : Int32) then ((qfd u.2.2.2.2 v 4) - y) else 0 - ((qfd u.2.2.2.2 v 4) - y))) (hb_12 : 0 ≤ qfd u.2.2.2.2 v 2 ∧ qfd u.2.2.2.2 v 2 < (u.1 8)) (c16_13 : ¬ (qfd u.2.2.2.2 v 2 : Int32) = x) : vp_in (qfd u.2.2.2.2 v 2) 20 := by
  refine g_in ?_ ?_ <;> ((try simp only [g_m1, Int32.lt_iff_toInt_lt, Int32.le_iff_toInt_le, ← Int32.toInt_inj, Int32.toInt_add, Int32.toInt_sub, Int32.toInt_mul, Int32.toInt_neg, Int32.reduceToInt, g_bm, g_bm'] at *); omega)
set_option maxRecDepth 100000 in
theorem g_X0_isTooNear_v2 (u : qS) (v : Nat) (x : Int32) (y : Int32) (r_6 : Int32) (a_19 : Nat) (hx : 0 ≤ x ∧ x < u.1 8) (hz8 : 0 ≤ u.1 8 ∧ u.1 8 ≤ 20) (hz9 : 0 ≤ u.1 9 ∧ u.1 9 ≤ 8) (hz10 : 0 ≤ u.1 10 ∧ u.1 10 ≤ 120) (hz12 : 0 ≤ u.1 12 ∧ u.1 12 ≤ 16) (hr_6 : r_6 = (if 0 ≤ ((qfd u.2.2.2.2 v 4) - y : Int32) then ((qfd u.2.2.2.2 v 4) - y) else 0 - ((qfd u.2.2.2.2 v 4) - y))) (hb_12 : 0 ≤ qfd u.2.2.2.2 v 2 ∧ qfd u.2.2.2.2 v 2 < (u.1 8)) (c16_13 : ¬ (qfd u.2.2.2.2 v 2 : Int32) = x) (ha_19_20_e : u.2.2.2.1 0 (qfd u.2.2.2.2 v 2 : Int32).toNatClampNeg = some a_19) : 0 ≤ x ∧ x < (u.1 8) := by
  first | omega | ((try simp only [g_m1, Int32.lt_iff_toInt_lt, Int32.le_iff_toInt_le, ← Int32.toInt_inj, Int32.reduceToInt] at *); omega) | ((try have ez0 : ((qfd u.2.2.2.2 v 4) - y : Int32).toInt = (qfd u.2.2.2.2 v 4 : Int32).toInt - (y : Int32).toInt := g_sub (by (try simp only [g_m1, Int32.lt_iff_toInt_lt, Int32.le_iff_toInt_le, ← Int32.toInt_inj, Int32.reduceToInt] at *); omega) (by (try simp only [g_m1, Int32.lt_iff_toInt_lt, Int32.le_iff_toInt_le, ← Int32.toInt_inj, Int32.reduceToInt] at *); omega)); (try simp only [g_m1, Int32.lt_iff_toInt_lt, Int32.le_iff_toInt_le, ← Int32.toInt_inj, Int32.reduceToInt] at *); omega) | ((try simp only [g_m1, Int32.lt_iff_toInt_lt, Int32.le_iff_toInt_le, ← Int32.toInt_inj, Int32.toInt_add, Int32.toInt_sub, Int32.toInt_mul, Int32.toInt_neg, Int32.reduceToInt, g_bm, g_bm'] at *); omega) | (have qr2 := g_rng x; have qr3 := g_rng y; have qr4 := g_rng r_6; (try simp only [g_m1, Int32.lt_iff_toInt_lt, Int32.le_iff_toInt_le, ← Int32.toInt_inj, Int32.toInt_add, Int32.toInt_sub, Int32.toInt_mul, Int32.toInt_neg, Int32.reduceToInt, g_bm, g_bm'] at *); omega) | (simp only [g_m1, Int32.lt_iff_toInt_lt, Int32.le_iff_toInt_le, ← Int32.toInt_inj, Int32.toInt_add, Int32.toInt_sub, Int32.toInt_mul, Int32.toInt_neg, Int32.reduceToInt, g_bm, g_bm'] at *; simp at *; omega) | (simp_all; done)
set_option maxRecDepth 100000 in
theorem g_X0_isTooNear_v3 (u : qS) (v : Nat) (x : Int32) (y : Int32) (r_6 : Int32) (a_19 : Nat) (hx : 0 ≤ x ∧ x < u.1 8) (hz8 : 0 ≤ u.1 8 ∧ u.1 8 ≤ 20) (hz9 : 0 ≤ u.1 9 ∧ u.1 9 ≤ 8) (hz10 : 0 ≤ u.1 10 ∧ u.1 10 ≤ 120) (hz12 : 0 ≤ u.1 12 ∧ u.1 12 ≤ 16) (hr_6 : r_6 = (if 0 ≤ ((qfd u.2.2.2.2 v 4) - y : Int32) then ((qfd u.2.2.2.2 v 4) - y) else 0 - ((qfd u.2.2.2.2 v 4) - y))) (hb_12 : 0 ≤ qfd u.2.2.2.2 v 2 ∧ qfd u.2.2.2.2 v 2 < (u.1 8)) (c16_13 : ¬ (qfd u.2.2.2.2 v 2 : Int32) = x) (ha_19_20_e : u.2.2.2.1 0 (qfd u.2.2.2.2 v 2 : Int32).toNatClampNeg = some a_19) : vp_in (x) 20 := by
  refine g_in ?_ ?_ <;> ((try simp only [g_m1, Int32.lt_iff_toInt_lt, Int32.le_iff_toInt_le, ← Int32.toInt_inj, Int32.toInt_add, Int32.toInt_sub, Int32.toInt_mul, Int32.toInt_neg, Int32.reduceToInt, g_bm, g_bm'] at *); omega)
set_option maxRecDepth 100000 in
theorem g_X0_isTooNear_v4 (u : qS) (v : Nat) (x : Int32) (y : Int32) (r_6 : Int32) (a_19 : Nat) (a_26 : Nat) (hx : 0 ≤ x ∧ x < u.1 8) (hz8 : 0 ≤ u.1 8 ∧ u.1 8 ≤ 20) (hz9 : 0 ≤ u.1 9 ∧ u.1 9 ≤ 8) (hz10 : 0 ≤ u.1 10 ∧ u.1 10 ≤ 120) (hz12 : 0 ≤ u.1 12 ∧ u.1 12 ≤ 16) (hr_6 : r_6 = (if 0 ≤ ((qfd u.2.2.2.2 v 4) - y : Int32) then ((qfd u.2.2.2.2 v 4) - y) else 0 - ((qfd u.2.2.2.2 v 4) - y))) (hb_12 : 0 ≤ qfd u.2.2.2.2 v 2 ∧ qfd u.2.2.2.2 v 2 < (u.1 8)) (c16_13 : ¬ (qfd u.2.2.2.2 v 2 : Int32) = x) (ha_19_20_e : u.2.2.2.1 0 (qfd u.2.2.2.2 v 2 : Int32).toNatClampNeg = some a_19) (ha_26_27_e : u.2.2.2.1 0 (x : Int32).toNatClampNeg = some a_26) (c51_33 : ¬ (qsd u.2.2.2.2 a_19 1 : Int32) = (qsd u.2.2.2.2 a_26 1)) : (0 = (1 : Int32) ∧ (c_tn u v x y)) ∨ (0 = (0 : Int32) ∧ ¬ (c_tn u v x y)) := by
  subst hr_6; first
  | exact Or.inl ⟨rfl, Or.inl ⟨by assumption, by assumption⟩⟩
  | (have e1 := (by assumption : u.2.2.2.1 0 (qfd u.2.2.2.2 v 2 : Int32).toNatClampNeg = some _); have e2 := (by assumption : u.2.2.2.1 0 (x : Int32).toNatClampNeg = some _); have f1 := csr_at (j := 1) e1; have f2 := csr_at (j := 1) e2; exact Or.inl ⟨rfl, Or.inr ⟨by rw [f1, f2]; assumption, by assumption⟩⟩)
  | (refine Or.inr ⟨rfl, fun q => ?_⟩
     rcases q with ⟨a, b⟩ | ⟨a, b⟩
     · first | exact absurd a (by assumption) | exact b (by assumption)
     · have e1 := (by assumption : u.2.2.2.1 0 (qfd u.2.2.2.2 v 2 : Int32).toNatClampNeg = some _); have e2 := (by assumption : u.2.2.2.1 0 (x : Int32).toNatClampNeg = some _); have f1 := csr_at (j := 1) e1; have f2 := csr_at (j := 1) e2; first | exact b (by assumption) | (rw [f1, f2] at a; exact absurd a (by assumption)))
set_option maxRecDepth 100000 in
theorem g_X0_isTooNear_v5 (u : qS) (v : Nat) (x : Int32) (y : Int32) (r_6 : Int32) (a_19 : Nat) (a_26 : Nat) (hx : 0 ≤ x ∧ x < u.1 8) (hz8 : 0 ≤ u.1 8 ∧ u.1 8 ≤ 20) (hz9 : 0 ≤ u.1 9 ∧ u.1 9 ≤ 8) (hz10 : 0 ≤ u.1 10 ∧ u.1 10 ≤ 120) (hz12 : 0 ≤ u.1 12 ∧ u.1 12 ≤ 16) (hr_6 : r_6 = (if 0 ≤ ((qfd u.2.2.2.2 v 4) - y : Int32) then ((qfd u.2.2.2.2 v 4) - y) else 0 - ((qfd u.2.2.2.2 v 4) - y))) (hb_12 : 0 ≤ qfd u.2.2.2.2 v 2 ∧ qfd u.2.2.2.2 v 2 < (u.1 8)) (c16_13 : ¬ (qfd u.2.2.2.2 v 2 : Int32) = x) (ha_19_20_e : u.2.2.2.1 0 (qfd u.2.2.2.2 v 2 : Int32).toNatClampNeg = some a_19) (ha_26_27_e : u.2.2.2.1 0 (x : Int32).toNatClampNeg = some a_26) (c51_33 : (qsd u.2.2.2.2 a_19 1 : Int32) = (qsd u.2.2.2.2 a_26 1)) (c62_34 : ((u.1 16) / 4) ≤ (r_6 : Int32)) : (0 = (1 : Int32) ∧ (c_tn u v x y)) ∨ (0 = (0 : Int32) ∧ ¬ (c_tn u v x y)) := by
  subst hr_6; first
  | exact Or.inl ⟨rfl, Or.inl ⟨by assumption, by assumption⟩⟩
  | (have e1 := (by assumption : u.2.2.2.1 0 (qfd u.2.2.2.2 v 2 : Int32).toNatClampNeg = some _); have e2 := (by assumption : u.2.2.2.1 0 (x : Int32).toNatClampNeg = some _); have f1 := csr_at (j := 1) e1; have f2 := csr_at (j := 1) e2; exact Or.inl ⟨rfl, Or.inr ⟨by rw [f1, f2]; assumption, by assumption⟩⟩)
  | (refine Or.inr ⟨rfl, fun q => ?_⟩
     rcases q with ⟨a, b⟩ | ⟨a, b⟩
     · first | exact absurd a (by assumption) | exact b (by assumption)
     · have e1 := (by assumption : u.2.2.2.1 0 (qfd u.2.2.2.2 v 2 : Int32).toNatClampNeg = some _); have e2 := (by assumption : u.2.2.2.1 0 (x : Int32).toNatClampNeg = some _); have f1 := csr_at (j := 1) e1; have f2 := csr_at (j := 1) e2; first | exact b (by assumption) | (rw [f1, f2] at a; exact absurd a (by assumption)))
set_option maxRecDepth 100000 in
theorem g_X0_isTooNear_v6 (u : qS) (v : Nat) (x : Int32) (y : Int32) (r_6 : Int32) (a_19 : Nat) (a_26 : Nat) (hx : 0 ≤ x ∧ x < u.1 8) (hz8 : 0 ≤ u.1 8 ∧ u.1 8 ≤ 20) (hz9 : 0 ≤ u.1 9 ∧ u.1 9 ≤ 8) (hz10 : 0 ≤ u.1 10 ∧ u.1 10 ≤ 120) (hz12 : 0 ≤ u.1 12 ∧ u.1 12 ≤ 16) (hr_6 : r_6 = (if 0 ≤ ((qfd u.2.2.2.2 v 4) - y : Int32) then ((qfd u.2.2.2.2 v 4) - y) else 0 - ((qfd u.2.2.2.2 v 4) - y))) (hb_12 : 0 ≤ qfd u.2.2.2.2 v 2 ∧ qfd u.2.2.2.2 v 2 < (u.1 8)) (c16_13 : ¬ (qfd u.2.2.2.2 v 2 : Int32) = x) (ha_19_20_e : u.2.2.2.1 0 (qfd u.2.2.2.2 v 2 : Int32).toNatClampNeg = some a_19) (ha_26_27_e : u.2.2.2.1 0 (x : Int32).toNatClampNeg = some a_26) (c51_33 : (qsd u.2.2.2.2 a_19 1 : Int32) = (qsd u.2.2.2.2 a_26 1)) (c62_34 : ¬ ((u.1 16) / 4) ≤ (r_6 : Int32)) : (1 = (1 : Int32) ∧ (c_tn u v x y)) ∨ (1 = (0 : Int32) ∧ ¬ (c_tn u v x y)) := by
  subst hr_6; first
  | exact Or.inl ⟨rfl, Or.inl ⟨by assumption, by assumption⟩⟩
  | (have e1 := (by assumption : u.2.2.2.1 0 (qfd u.2.2.2.2 v 2 : Int32).toNatClampNeg = some _); have e2 := (by assumption : u.2.2.2.1 0 (x : Int32).toNatClampNeg = some _); have f1 := csr_at (j := 1) e1; have f2 := csr_at (j := 1) e2; exact Or.inl ⟨rfl, Or.inr ⟨by rw [f1, f2]; assumption, by assumption⟩⟩)
  | (refine Or.inr ⟨rfl, fun q => ?_⟩
     rcases q with ⟨a, b⟩ | ⟨a, b⟩
     · first | exact absurd a (by assumption) | exact b (by assumption)
     · have e1 := (by assumption : u.2.2.2.1 0 (qfd u.2.2.2.2 v 2 : Int32).toNatClampNeg = some _); have e2 := (by assumption : u.2.2.2.1 0 (x : Int32).toNatClampNeg = some _); have f1 := csr_at (j := 1) e1; have f2 := csr_at (j := 1) e2; first | exact b (by assumption) | (rw [f1, f2] at a; exact absurd a (by assumption)))
set_option maxRecDepth 100000 in
theorem g_X0_isTooNear_v7 (u : qS) (v : Nat) (x : Int32) (y : Int32) (r_6 : Int32) (hx : 0 ≤ x ∧ x < u.1 8) (hz8 : 0 ≤ u.1 8 ∧ u.1 8 ≤ 20) (hz9 : 0 ≤ u.1 9 ∧ u.1 9 ≤ 8) (hz10 : 0 ≤ u.1 10 ∧ u.1 10 ≤ 120) (hz12 : 0 ≤ u.1 12 ∧ u.1 12 ≤ 16) (hr_6 : r_6 = (if 0 ≤ ((qfd u.2.2.2.2 v 4) - y : Int32) then ((qfd u.2.2.2.2 v 4) - y) else 0 - ((qfd u.2.2.2.2 v 4) - y))) (hb_12 : 0 ≤ qfd u.2.2.2.2 v 2 ∧ qfd u.2.2.2.2 v 2 < (u.1 8)) (c16_13 : (qfd u.2.2.2.2 v 2 : Int32) = x) (c25_35 : (u.1 16) ≤ (r_6 : Int32)) : 0 ≤ (qfd u.2.2.2.2 v 2) ∧ (qfd u.2.2.2.2 v 2) < (u.1 8) := by
  first | omega | ((try simp only [g_m1, Int32.lt_iff_toInt_lt, Int32.le_iff_toInt_le, ← Int32.toInt_inj, Int32.reduceToInt] at *); omega) | ((try have ez0 : ((qfd u.2.2.2.2 v 4) - y : Int32).toInt = (qfd u.2.2.2.2 v 4 : Int32).toInt - (y : Int32).toInt := g_sub (by (try simp only [g_m1, Int32.lt_iff_toInt_lt, Int32.le_iff_toInt_le, ← Int32.toInt_inj, Int32.reduceToInt] at *); omega) (by (try simp only [g_m1, Int32.lt_iff_toInt_lt, Int32.le_iff_toInt_le, ← Int32.toInt_inj, Int32.reduceToInt] at *); omega)); (try simp only [g_m1, Int32.lt_iff_toInt_lt, Int32.le_iff_toInt_le, ← Int32.toInt_inj, Int32.reduceToInt] at *); omega) | ((try simp only [g_m1, Int32.lt_iff_toInt_lt, Int32.le_iff_toInt_le, ← Int32.toInt_inj, Int32.toInt_add, Int32.toInt_sub, Int32.toInt_mul, Int32.toInt_neg, Int32.reduceToInt, g_bm, g_bm'] at *); omega) | (have qr2 := g_rng x; have qr3 := g_rng y; have qr4 := g_rng r_6; (try simp only [g_m1, Int32.lt_iff_toInt_lt, Int32.le_iff_toInt_le, ← Int32.toInt_inj, Int32.toInt_add, Int32.toInt_sub, Int32.toInt_mul, Int32.toInt_neg, Int32.reduceToInt, g_bm, g_bm'] at *); omega) | (simp only [g_m1, Int32.lt_iff_toInt_lt, Int32.le_iff_toInt_le, ← Int32.toInt_inj, Int32.toInt_add, Int32.toInt_sub, Int32.toInt_mul, Int32.toInt_neg, Int32.reduceToInt, g_bm, g_bm'] at *; simp at *; omega) | (simp_all; done)
set_option maxRecDepth 100000 in
theorem g_X0_isTooNear_v8 (u : qS) (v : Nat) (x : Int32) (y : Int32) (r_6 : Int32) (hx : 0 ≤ x ∧ x < u.1 8) (hz8 : 0 ≤ u.1 8 ∧ u.1 8 ≤ 20) (hz9 : 0 ≤ u.1 9 ∧ u.1 9 ≤ 8) (hz10 : 0 ≤ u.1 10 ∧ u.1 10 ≤ 120) (hz12 : 0 ≤ u.1 12 ∧ u.1 12 ≤ 16) (hr_6 : r_6 = (if 0 ≤ ((qfd u.2.2.2.2 v 4) - y : Int32) then ((qfd u.2.2.2.2 v 4) - y) else 0 - ((qfd u.2.2.2.2 v 4) - y))) (hb_12 : 0 ≤ qfd u.2.2.2.2 v 2 ∧ qfd u.2.2.2.2 v 2 < (u.1 8)) (c16_13 : (qfd u.2.2.2.2 v 2 : Int32) = x) (c25_35 : (u.1 16) ≤ (r_6 : Int32)) : vp_in (qfd u.2.2.2.2 v 2) 20 := by
  refine g_in ?_ ?_ <;> ((try simp only [g_m1, Int32.lt_iff_toInt_lt, Int32.le_iff_toInt_le, ← Int32.toInt_inj, Int32.toInt_add, Int32.toInt_sub, Int32.toInt_mul, Int32.toInt_neg, Int32.reduceToInt, g_bm, g_bm'] at *); omega)
set_option maxRecDepth 100000 in
theorem g_X0_isTooNear_v9 (u : qS) (v : Nat) (x : Int32) (y : Int32) (r_6 : Int32) (a_41 : Nat) (hx : 0 ≤ x ∧ x < u.1 8) (hz8 : 0 ≤ u.1 8 ∧ u.1 8 ≤ 20) (hz9 : 0 ≤ u.1 9 ∧ u.1 9 ≤ 8) (hz10 : 0 ≤ u.1 10 ∧ u.1 10 ≤ 120) (hz12 : 0 ≤ u.1 12 ∧ u.1 12 ≤ 16) (hr_6 : r_6 = (if 0 ≤ ((qfd u.2.2.2.2 v 4) - y : Int32) then ((qfd u.2.2.2.2 v 4) - y) else 0 - ((qfd u.2.2.2.2 v 4) - y))) (hb_12 : 0 ≤ qfd u.2.2.2.2 v 2 ∧ qfd u.2.2.2.2 v 2 < (u.1 8)) (c16_13 : (qfd u.2.2.2.2 v 2 : Int32) = x) (c25_35 : (u.1 16) ≤ (r_6 : Int32)) (ha_41_42_e : u.2.2.2.1 0 (qfd u.2.2.2.2 v 2 : Int32).toNatClampNeg = some a_41) : 0 ≤ x ∧ x < (u.1 8) := by
  first | omega | ((try simp only [g_m1, Int32.lt_iff_toInt_lt, Int32.le_iff_toInt_le, ← Int32.toInt_inj, Int32.reduceToInt] at *); omega) | ((try have ez0 : ((qfd u.2.2.2.2 v 4) - y : Int32).toInt = (qfd u.2.2.2.2 v 4 : Int32).toInt - (y : Int32).toInt := g_sub (by (try simp only [g_m1, Int32.lt_iff_toInt_lt, Int32.le_iff_toInt_le, ← Int32.toInt_inj, Int32.reduceToInt] at *); omega) (by (try simp only [g_m1, Int32.lt_iff_toInt_lt, Int32.le_iff_toInt_le, ← Int32.toInt_inj, Int32.reduceToInt] at *); omega)); (try simp only [g_m1, Int32.lt_iff_toInt_lt, Int32.le_iff_toInt_le, ← Int32.toInt_inj, Int32.reduceToInt] at *); omega) | ((try simp only [g_m1, Int32.lt_iff_toInt_lt, Int32.le_iff_toInt_le, ← Int32.toInt_inj, Int32.toInt_add, Int32.toInt_sub, Int32.toInt_mul, Int32.toInt_neg, Int32.reduceToInt, g_bm, g_bm'] at *); omega) | (have qr2 := g_rng x; have qr3 := g_rng y; have qr4 := g_rng r_6; (try simp only [g_m1, Int32.lt_iff_toInt_lt, Int32.le_iff_toInt_le, ← Int32.toInt_inj, Int32.toInt_add, Int32.toInt_sub, Int32.toInt_mul, Int32.toInt_neg, Int32.reduceToInt, g_bm, g_bm'] at *); omega) | (simp only [g_m1, Int32.lt_iff_toInt_lt, Int32.le_iff_toInt_le, ← Int32.toInt_inj, Int32.toInt_add, Int32.toInt_sub, Int32.toInt_mul, Int32.toInt_neg, Int32.reduceToInt, g_bm, g_bm'] at *; simp at *; omega) | (simp_all; done)
set_option maxRecDepth 100000 in
theorem g_X0_isTooNear_v10 (u : qS) (v : Nat) (x : Int32) (y : Int32) (r_6 : Int32) (a_41 : Nat) (hx : 0 ≤ x ∧ x < u.1 8) (hz8 : 0 ≤ u.1 8 ∧ u.1 8 ≤ 20) (hz9 : 0 ≤ u.1 9 ∧ u.1 9 ≤ 8) (hz10 : 0 ≤ u.1 10 ∧ u.1 10 ≤ 120) (hz12 : 0 ≤ u.1 12 ∧ u.1 12 ≤ 16) (hr_6 : r_6 = (if 0 ≤ ((qfd u.2.2.2.2 v 4) - y : Int32) then ((qfd u.2.2.2.2 v 4) - y) else 0 - ((qfd u.2.2.2.2 v 4) - y))) (hb_12 : 0 ≤ qfd u.2.2.2.2 v 2 ∧ qfd u.2.2.2.2 v 2 < (u.1 8)) (c16_13 : (qfd u.2.2.2.2 v 2 : Int32) = x) (c25_35 : (u.1 16) ≤ (r_6 : Int32)) (ha_41_42_e : u.2.2.2.1 0 (qfd u.2.2.2.2 v 2 : Int32).toNatClampNeg = some a_41) : vp_in (x) 20 := by
  refine g_in ?_ ?_ <;> ((try simp only [g_m1, Int32.lt_iff_toInt_lt, Int32.le_iff_toInt_le, ← Int32.toInt_inj, Int32.toInt_add, Int32.toInt_sub, Int32.toInt_mul, Int32.toInt_neg, Int32.reduceToInt, g_bm, g_bm'] at *); omega)
set_option maxRecDepth 100000 in
theorem g_X0_isTooNear_v11 (u : qS) (v : Nat) (x : Int32) (y : Int32) (r_6 : Int32) (a_41 : Nat) (a_48 : Nat) (hx : 0 ≤ x ∧ x < u.1 8) (hz8 : 0 ≤ u.1 8 ∧ u.1 8 ≤ 20) (hz9 : 0 ≤ u.1 9 ∧ u.1 9 ≤ 8) (hz10 : 0 ≤ u.1 10 ∧ u.1 10 ≤ 120) (hz12 : 0 ≤ u.1 12 ∧ u.1 12 ≤ 16) (hr_6 : r_6 = (if 0 ≤ ((qfd u.2.2.2.2 v 4) - y : Int32) then ((qfd u.2.2.2.2 v 4) - y) else 0 - ((qfd u.2.2.2.2 v 4) - y))) (hb_12 : 0 ≤ qfd u.2.2.2.2 v 2 ∧ qfd u.2.2.2.2 v 2 < (u.1 8)) (c16_13 : (qfd u.2.2.2.2 v 2 : Int32) = x) (c25_35 : (u.1 16) ≤ (r_6 : Int32)) (ha_41_42_e : u.2.2.2.1 0 (qfd u.2.2.2.2 v 2 : Int32).toNatClampNeg = some a_41) (ha_48_49_e : u.2.2.2.1 0 (x : Int32).toNatClampNeg = some a_48) (c51_55 : ¬ (qsd u.2.2.2.2 a_41 1 : Int32) = (qsd u.2.2.2.2 a_48 1)) : (0 = (1 : Int32) ∧ (c_tn u v x y)) ∨ (0 = (0 : Int32) ∧ ¬ (c_tn u v x y)) := by
  subst hr_6; first
  | exact Or.inl ⟨rfl, Or.inl ⟨by assumption, by assumption⟩⟩
  | (have e1 := (by assumption : u.2.2.2.1 0 (qfd u.2.2.2.2 v 2 : Int32).toNatClampNeg = some _); have e2 := (by assumption : u.2.2.2.1 0 (x : Int32).toNatClampNeg = some _); have f1 := csr_at (j := 1) e1; have f2 := csr_at (j := 1) e2; exact Or.inl ⟨rfl, Or.inr ⟨by rw [f1, f2]; assumption, by assumption⟩⟩)
  | (refine Or.inr ⟨rfl, fun q => ?_⟩
     rcases q with ⟨a, b⟩ | ⟨a, b⟩
     · first | exact absurd a (by assumption) | exact b (by assumption)
     · have e1 := (by assumption : u.2.2.2.1 0 (qfd u.2.2.2.2 v 2 : Int32).toNatClampNeg = some _); have e2 := (by assumption : u.2.2.2.1 0 (x : Int32).toNatClampNeg = some _); have f1 := csr_at (j := 1) e1; have f2 := csr_at (j := 1) e2; first | exact b (by assumption) | (rw [f1, f2] at a; exact absurd a (by assumption)))
set_option maxRecDepth 100000 in
theorem g_X0_isTooNear_v12 (u : qS) (v : Nat) (x : Int32) (y : Int32) (r_6 : Int32) (a_41 : Nat) (a_48 : Nat) (hx : 0 ≤ x ∧ x < u.1 8) (hz8 : 0 ≤ u.1 8 ∧ u.1 8 ≤ 20) (hz9 : 0 ≤ u.1 9 ∧ u.1 9 ≤ 8) (hz10 : 0 ≤ u.1 10 ∧ u.1 10 ≤ 120) (hz12 : 0 ≤ u.1 12 ∧ u.1 12 ≤ 16) (hr_6 : r_6 = (if 0 ≤ ((qfd u.2.2.2.2 v 4) - y : Int32) then ((qfd u.2.2.2.2 v 4) - y) else 0 - ((qfd u.2.2.2.2 v 4) - y))) (hb_12 : 0 ≤ qfd u.2.2.2.2 v 2 ∧ qfd u.2.2.2.2 v 2 < (u.1 8)) (c16_13 : (qfd u.2.2.2.2 v 2 : Int32) = x) (c25_35 : (u.1 16) ≤ (r_6 : Int32)) (ha_41_42_e : u.2.2.2.1 0 (qfd u.2.2.2.2 v 2 : Int32).toNatClampNeg = some a_41) (ha_48_49_e : u.2.2.2.1 0 (x : Int32).toNatClampNeg = some a_48) (c51_55 : (qsd u.2.2.2.2 a_41 1 : Int32) = (qsd u.2.2.2.2 a_48 1)) (c62_56 : ((u.1 16) / 4) ≤ (r_6 : Int32)) : (0 = (1 : Int32) ∧ (c_tn u v x y)) ∨ (0 = (0 : Int32) ∧ ¬ (c_tn u v x y)) := by
  subst hr_6; first
  | exact Or.inl ⟨rfl, Or.inl ⟨by assumption, by assumption⟩⟩
  | (have e1 := (by assumption : u.2.2.2.1 0 (qfd u.2.2.2.2 v 2 : Int32).toNatClampNeg = some _); have e2 := (by assumption : u.2.2.2.1 0 (x : Int32).toNatClampNeg = some _); have f1 := csr_at (j := 1) e1; have f2 := csr_at (j := 1) e2; exact Or.inl ⟨rfl, Or.inr ⟨by rw [f1, f2]; assumption, by assumption⟩⟩)
  | (refine Or.inr ⟨rfl, fun q => ?_⟩
     rcases q with ⟨a, b⟩ | ⟨a, b⟩
     · first | exact absurd a (by assumption) | exact b (by assumption)
     · have e1 := (by assumption : u.2.2.2.1 0 (qfd u.2.2.2.2 v 2 : Int32).toNatClampNeg = some _); have e2 := (by assumption : u.2.2.2.1 0 (x : Int32).toNatClampNeg = some _); have f1 := csr_at (j := 1) e1; have f2 := csr_at (j := 1) e2; first | exact b (by assumption) | (rw [f1, f2] at a; exact absurd a (by assumption)))
set_option maxRecDepth 100000 in
theorem g_X0_isTooNear_v13 (u : qS) (v : Nat) (x : Int32) (y : Int32) (r_6 : Int32) (a_41 : Nat) (a_48 : Nat) (hx : 0 ≤ x ∧ x < u.1 8) (hz8 : 0 ≤ u.1 8 ∧ u.1 8 ≤ 20) (hz9 : 0 ≤ u.1 9 ∧ u.1 9 ≤ 8) (hz10 : 0 ≤ u.1 10 ∧ u.1 10 ≤ 120) (hz12 : 0 ≤ u.1 12 ∧ u.1 12 ≤ 16) (hr_6 : r_6 = (if 0 ≤ ((qfd u.2.2.2.2 v 4) - y : Int32) then ((qfd u.2.2.2.2 v 4) - y) else 0 - ((qfd u.2.2.2.2 v 4) - y))) (hb_12 : 0 ≤ qfd u.2.2.2.2 v 2 ∧ qfd u.2.2.2.2 v 2 < (u.1 8)) (c16_13 : (qfd u.2.2.2.2 v 2 : Int32) = x) (c25_35 : (u.1 16) ≤ (r_6 : Int32)) (ha_41_42_e : u.2.2.2.1 0 (qfd u.2.2.2.2 v 2 : Int32).toNatClampNeg = some a_41) (ha_48_49_e : u.2.2.2.1 0 (x : Int32).toNatClampNeg = some a_48) (c51_55 : (qsd u.2.2.2.2 a_41 1 : Int32) = (qsd u.2.2.2.2 a_48 1)) (c62_56 : ¬ ((u.1 16) / 4) ≤ (r_6 : Int32)) : (1 = (1 : Int32) ∧ (c_tn u v x y)) ∨ (1 = (0 : Int32) ∧ ¬ (c_tn u v x y)) := by
  subst hr_6; first
  | exact Or.inl ⟨rfl, Or.inl ⟨by assumption, by assumption⟩⟩
  | (have e1 := (by assumption : u.2.2.2.1 0 (qfd u.2.2.2.2 v 2 : Int32).toNatClampNeg = some _); have e2 := (by assumption : u.2.2.2.1 0 (x : Int32).toNatClampNeg = some _); have f1 := csr_at (j := 1) e1; have f2 := csr_at (j := 1) e2; exact Or.inl ⟨rfl, Or.inr ⟨by rw [f1, f2]; assumption, by assumption⟩⟩)
  | (refine Or.inr ⟨rfl, fun q => ?_⟩
     rcases q with ⟨a, b⟩ | ⟨a, b⟩
     · first | exact absurd a (by assumption) | exact b (by assumption)
     · have e1 := (by assumption : u.2.2.2.1 0 (qfd u.2.2.2.2 v 2 : Int32).toNatClampNeg = some _); have e2 := (by assumption : u.2.2.2.1 0 (x : Int32).toNatClampNeg = some _); have f1 := csr_at (j := 1) e1; have f2 := csr_at (j := 1) e2; first | exact b (by assumption) | (rw [f1, f2] at a; exact absurd a (by assumption)))
set_option maxRecDepth 100000 in
theorem g_X0_isTooNear_v14 (u : qS) (v : Nat) (x : Int32) (y : Int32) (r_6 : Int32) (hx : 0 ≤ x ∧ x < u.1 8) (hz8 : 0 ≤ u.1 8 ∧ u.1 8 ≤ 20) (hz9 : 0 ≤ u.1 9 ∧ u.1 9 ≤ 8) (hz10 : 0 ≤ u.1 10 ∧ u.1 10 ≤ 120) (hz12 : 0 ≤ u.1 12 ∧ u.1 12 ≤ 16) (hr_6 : r_6 = (if 0 ≤ ((qfd u.2.2.2.2 v 4) - y : Int32) then ((qfd u.2.2.2.2 v 4) - y) else 0 - ((qfd u.2.2.2.2 v 4) - y))) (hb_12 : 0 ≤ qfd u.2.2.2.2 v 2 ∧ qfd u.2.2.2.2 v 2 < (u.1 8)) (c16_13 : (qfd u.2.2.2.2 v 2 : Int32) = x) (c25_35 : ¬ (u.1 16) ≤ (r_6 : Int32)) : (1 = (1 : Int32) ∧ (c_tn u v x y)) ∨ (1 = (0 : Int32) ∧ ¬ (c_tn u v x y)) := by
  subst hr_6; first
  | exact Or.inl ⟨rfl, Or.inl ⟨by assumption, by assumption⟩⟩
  | (have e1 := (by assumption : u.2.2.2.1 0 (qfd u.2.2.2.2 v 2 : Int32).toNatClampNeg = some _); have e2 := (by assumption : u.2.2.2.1 0 (x : Int32).toNatClampNeg = some _); have f1 := csr_at (j := 1) e1; have f2 := csr_at (j := 1) e2; exact Or.inl ⟨rfl, Or.inr ⟨by rw [f1, f2]; assumption, by assumption⟩⟩)
  | (refine Or.inr ⟨rfl, fun q => ?_⟩
     rcases q with ⟨a, b⟩ | ⟨a, b⟩
     · first | exact absurd a (by assumption) | exact b (by assumption)
     · have e1 := (by assumption : u.2.2.2.1 0 (qfd u.2.2.2.2 v 2 : Int32).toNatClampNeg = some _); have e2 := (by assumption : u.2.2.2.1 0 (x : Int32).toNatClampNeg = some _); have f1 := csr_at (j := 1) e1; have f2 := csr_at (j := 1) e2; first | exact b (by assumption) | (rw [f1, f2] at a; exact absurd a (by assumption)))
set_option maxHeartbeats 1000000 in
set_option maxRecDepth 100000 in
theorem g_X0_isTooNear (l : Launch) (E : qE) (A : Nat → Prop) (u : qS) (v : Nat) (x : Int32) (y : Int32) (hI : IC E u) (hv : qRf u v 10) (hx : 0 ≤ x ∧ x < u.1 8) : Met l yX0_isTooNear (uws yX0_isTooNear cX0_isTooNear 5 (some .boolean)) (qR 2 0 0) (qPc E A 0 u [.ref (E.2.2 99), .ref v, .int x, .int y]) (qQi E A 0 (fun r u1 => u1 = u ∧ ((r = 1 ∧ (c_tn u v x y)) ∨ (r = 0 ∧ ¬ (c_tn u v x y))))) 0 0 A := by
  refine q_met (own := RX0) (f := 2) [.ref (E.2.2 99), .ref v, .int x, .int y] (by decide) (Nat.le_of_ble_eq_true rfl) rfl ?_
  intro p0 e0 s0 m0 bl0 me0 cd0 ls hF hr hlocks hU hS hA hl
  have hl : lv_has ls 5 [(0, .ref (E.2.2 99)), (1, .ref v), (2, .int x), (3, .int y)] := hl
  have hz8 : 0 ≤ u.1 8 ∧ u.1 8 ≤ 20 := hI.1.s8
  have hz9 : 0 ≤ u.1 9 ∧ u.1 9 ≤ 8 := hI.1.s9
  have hz10 : 0 ≤ u.1 10 ∧ u.1 10 ≤ 120 := hI.1.s10
  have hz12 : 0 ≤ u.1 12 ∧ u.1 12 ≤ 16 := hI.1.s12
  refine lv_aload_n hF.1 hF.2.1 dX0_isTooNear_0 rfl (lv_at hl 1 rfl) ?_
  obtain ⟨k_1, fs_2, hd_4, hv_5, hv_5_2, hv_5_3, -⟩ := hI.vf hv 4 (by decide)
  refine q_getd (v := .int (qfd u.2.2.2.2 v 4)) hF hU dX0_isTooNear_1 k_1 10 4 hd_4 rfl inX10 (by decide) w_603 rfl hv_5 ?_
  refine lv_iload_n hF.1 hF.2.1 dX0_isTooNear_4 rfl (lv_at hl 3 rfl) ?_
  refine lv_isub hF.1 hF.2.1 dX0_isTooNear_5 ?_
  refine va_mabs hF.1 hF.2.1 (hF.2.2.1.trans hl.1.symm) hF.2.2.2.1 (hF.2.2.2.2 _ w_1104) (hF.2.2.2.2 _ w_885) (hF.2.2.2.2 _ w_113) (hF.2.2.2.2 _ w_886) (by decide) (Nat.le_of_ble_eq_true rfl) (by decide) (by decide) dX0_isTooNear_6 ?_
  obtain ⟨r_6, hr_6⟩ : ∃ z : Int32, z = (if 0 ≤ ((qfd u.2.2.2.2 v 4) - y : Int32) then ((qfd u.2.2.2.2 v 4) - y) else 0 - ((qfd u.2.2.2.2 v 4) - y)) := ⟨_, rfl⟩
  refine q_topi hr_6.symm ?_
  refine lv_istore (lv' := [(4, .int r_6), (0, .ref (E.2.2 99)), (1, .ref v), (2, .int x), (3, .int y)]) hF.1 hF.2.1 dX0_isTooNear_9 hl (by decide) rfl (fun ls hl => ?_)
  refine lv_aload_n hF.1 hF.2.1 dX0_isTooNear_11 rfl (lv_at hl 2 rfl) ?_
  obtain ⟨k_7, fs_8, hd_10, hv_11, hv_11_2, hv_11_3, -⟩ := hI.vf hv 2 (by decide)
  refine q_getd (v := .int (qfd u.2.2.2.2 v 2)) hF hU dX0_isTooNear_12 k_7 10 2 hd_10 rfl inX10 (by decide) w_594 rfl hv_11 ?_
  have hb_12 : 0 ≤ qfd u.2.2.2.2 v 2 ∧ qfd u.2.2.2.2 v 2 < (u.1 8) := hv_11_2 rfl
  refine lv_iload_n hF.1 hF.2.1 dX0_isTooNear_15 rfl (lv_at hl 3 rfl) ?_
  refine lv_icmp_ne (tgt := 30) hF.1 hF.2.1 dX0_isTooNear_16 (by decide) (fun c16_13 => ?_) (fun c16_13 => ?_)
  · refine lv_aload_n hF.1 hF.2.1 dX0_isTooNear_30 rfl (lv_at hl 1 rfl) ?_
    refine q_get (v := .ref (E.2.2 0)) hF hU dX0_isTooNear_31 1 0 0 0 99 rfl rfl rfl rfl inX0 (by decide) (by decide) w_142 rfl rfl ?_
    refine lv_aload_n hF.1 hF.2.1 dX0_isTooNear_34 rfl (lv_at hl 2 rfl) ?_
    obtain ⟨k_14, fs_15, hd_17, hv_18, hv_18_2, hv_18_3, -⟩ := hI.vf hv 2 (by decide)
    refine q_getd (v := .int (qfd u.2.2.2.2 v 2)) hF hU dX0_isTooNear_35 k_14 10 2 hd_17 rfl inX10 (by decide) w_594 rfl hv_18 ?_
    obtain ⟨a_19, ha_19_20_e, ha_19_20⟩ := hI.r0 (qfd u.2.2.2.2 v 2) (g_X0_isTooNear_v0 u v x y r_6 hx hz8 hz9 hz10 hz12 hr_6 hb_12 c16_13)
    refine q_aald (v := .ref a_19) hF hU dX0_isTooNear_38 0 0 4 rfl rfl (by decide) rfl (g_X0_isTooNear_v1 u v x y r_6 hx hz8 hz9 hz10 hz12 hr_6 hb_12 c16_13) (by rw [ha_19_20_e]; rfl) ?_
    obtain ⟨k_21, fs_22, hd_24, hv_25⟩ := hI.snf ha_19_20 1 (by decide)
    refine q_getd (v := .int (qsd u.2.2.2.2 a_19 1)) hF hU dX0_isTooNear_39 k_21 7 1 hd_24 rfl inX7 (by decide) w_524 rfl hv_25 ?_
    refine lv_aload_n hF.1 hF.2.1 dX0_isTooNear_42 rfl (lv_at hl 1 rfl) ?_
    refine q_get (v := .ref (E.2.2 0)) hF hU dX0_isTooNear_43 1 0 0 0 99 rfl rfl rfl rfl inX0 (by decide) (by decide) w_142 rfl rfl ?_
    refine lv_iload_n hF.1 hF.2.1 dX0_isTooNear_46 rfl (lv_at hl 3 rfl) ?_
    obtain ⟨a_26, ha_26_27_e, ha_26_27⟩ := hI.r0 x (g_X0_isTooNear_v2 u v x y r_6 a_19 hx hz8 hz9 hz10 hz12 hr_6 hb_12 c16_13 ha_19_20_e)
    refine q_aald (v := .ref a_26) hF hU dX0_isTooNear_47 0 0 4 rfl rfl (by decide) rfl (g_X0_isTooNear_v3 u v x y r_6 a_19 hx hz8 hz9 hz10 hz12 hr_6 hb_12 c16_13 ha_19_20_e) (by rw [ha_26_27_e]; rfl) ?_
    obtain ⟨k_28, fs_29, hd_31, hv_32⟩ := hI.snf ha_26_27 1 (by decide)
    refine q_getd (v := .int (qsd u.2.2.2.2 a_26 1)) hF hU dX0_isTooNear_48 k_28 7 1 hd_31 rfl inX7 (by decide) w_524 rfl hv_32 ?_
    refine lv_icmp_ne (tgt := 69) hF.1 hF.2.1 dX0_isTooNear_51 (by decide) (fun c51_33 => ?_) (fun c51_33 => ?_)
    · refine lv_iconst (v := 0) hF.1 hF.2.1 dX0_isTooNear_69 (by decide) ?_
      exact q_iret hF hr (by decide) hlocks hU hS dX0_isTooNear_70 ⟨rfl, (g_X0_isTooNear_v4 u v x y r_6 a_19 a_26 hx hz8 hz9 hz10 hz12 hr_6 hb_12 c16_13 ha_19_20_e ha_26_27_e c51_33)⟩
    · refine lv_iload hF.1 hF.2.1 dX0_isTooNear_54 (lv_at hl 0 rfl) ?_
      refine lv_aload_n hF.1 hF.2.1 dX0_isTooNear_56 rfl (lv_at hl 1 rfl) ?_
      refine q_get (v := .int (u.1 16)) hF hU dX0_isTooNear_57 1 0 16 16 99 rfl rfl rfl rfl inX0 (by decide) (by decide) w_184 rfl rfl ?_
      refine lv_iconst (v := 4) hF.1 hF.2.1 dX0_isTooNear_60 (by decide) ?_
      refine lv_idiv hF.1 hF.2.1 dX0_isTooNear_61 (by decide) ?_
      refine lv_icmp_ge (tgt := 69) hF.1 hF.2.1 dX0_isTooNear_62 (by decide) (fun c62_34 => ?_) (fun c62_34 => ?_)
      · refine lv_iconst (v := 0) hF.1 hF.2.1 dX0_isTooNear_69 (by decide) ?_
        exact q_iret hF hr (by decide) hlocks hU hS dX0_isTooNear_70 ⟨rfl, (g_X0_isTooNear_v5 u v x y r_6 a_19 a_26 hx hz8 hz9 hz10 hz12 hr_6 hb_12 c16_13 ha_19_20_e ha_26_27_e c51_33 c62_34)⟩
      · refine lv_iconst (v := 1) hF.1 hF.2.1 dX0_isTooNear_65 (by decide) ?_
        refine lv_goto (tgt := 70) hF.1 hF.2.1 dX0_isTooNear_66 (by decide) ?_
        exact q_iret hF hr (by decide) hlocks hU hS dX0_isTooNear_70 ⟨rfl, (g_X0_isTooNear_v6 u v x y r_6 a_19 a_26 hx hz8 hz9 hz10 hz12 hr_6 hb_12 c16_13 ha_19_20_e ha_26_27_e c51_33 c62_34)⟩
  · refine lv_iload hF.1 hF.2.1 dX0_isTooNear_19 (lv_at hl 0 rfl) ?_
    refine lv_aload_n hF.1 hF.2.1 dX0_isTooNear_21 rfl (lv_at hl 1 rfl) ?_
    refine q_get (v := .int (u.1 16)) hF hU dX0_isTooNear_22 1 0 16 16 99 rfl rfl rfl rfl inX0 (by decide) (by decide) w_184 rfl rfl ?_
    refine lv_icmp_ge (tgt := 30) hF.1 hF.2.1 dX0_isTooNear_25 (by decide) (fun c25_35 => ?_) (fun c25_35 => ?_)
    · refine lv_aload_n hF.1 hF.2.1 dX0_isTooNear_30 rfl (lv_at hl 1 rfl) ?_
      refine q_get (v := .ref (E.2.2 0)) hF hU dX0_isTooNear_31 1 0 0 0 99 rfl rfl rfl rfl inX0 (by decide) (by decide) w_142 rfl rfl ?_
      refine lv_aload_n hF.1 hF.2.1 dX0_isTooNear_34 rfl (lv_at hl 2 rfl) ?_
      obtain ⟨k_36, fs_37, hd_39, hv_40, hv_40_2, hv_40_3, -⟩ := hI.vf hv 2 (by decide)
      refine q_getd (v := .int (qfd u.2.2.2.2 v 2)) hF hU dX0_isTooNear_35 k_36 10 2 hd_39 rfl inX10 (by decide) w_594 rfl hv_40 ?_
      obtain ⟨a_41, ha_41_42_e, ha_41_42⟩ := hI.r0 (qfd u.2.2.2.2 v 2) (g_X0_isTooNear_v7 u v x y r_6 hx hz8 hz9 hz10 hz12 hr_6 hb_12 c16_13 c25_35)
      refine q_aald (v := .ref a_41) hF hU dX0_isTooNear_38 0 0 4 rfl rfl (by decide) rfl (g_X0_isTooNear_v8 u v x y r_6 hx hz8 hz9 hz10 hz12 hr_6 hb_12 c16_13 c25_35) (by rw [ha_41_42_e]; rfl) ?_
      obtain ⟨k_43, fs_44, hd_46, hv_47⟩ := hI.snf ha_41_42 1 (by decide)
      refine q_getd (v := .int (qsd u.2.2.2.2 a_41 1)) hF hU dX0_isTooNear_39 k_43 7 1 hd_46 rfl inX7 (by decide) w_524 rfl hv_47 ?_
      refine lv_aload_n hF.1 hF.2.1 dX0_isTooNear_42 rfl (lv_at hl 1 rfl) ?_
      refine q_get (v := .ref (E.2.2 0)) hF hU dX0_isTooNear_43 1 0 0 0 99 rfl rfl rfl rfl inX0 (by decide) (by decide) w_142 rfl rfl ?_
      refine lv_iload_n hF.1 hF.2.1 dX0_isTooNear_46 rfl (lv_at hl 3 rfl) ?_
      obtain ⟨a_48, ha_48_49_e, ha_48_49⟩ := hI.r0 x (g_X0_isTooNear_v9 u v x y r_6 a_41 hx hz8 hz9 hz10 hz12 hr_6 hb_12 c16_13 c25_35 ha_41_42_e)
      refine q_aald (v := .ref a_48) hF hU dX0_isTooNear_47 0 0 4 rfl rfl (by decide) rfl (g_X0_isTooNear_v10 u v x y r_6 a_41 hx hz8 hz9 hz10 hz12 hr_6 hb_12 c16_13 c25_35 ha_41_42_e) (by rw [ha_48_49_e]; rfl) ?_
      obtain ⟨k_50, fs_51, hd_53, hv_54⟩ := hI.snf ha_48_49 1 (by decide)
      refine q_getd (v := .int (qsd u.2.2.2.2 a_48 1)) hF hU dX0_isTooNear_48 k_50 7 1 hd_53 rfl inX7 (by decide) w_524 rfl hv_54 ?_
      refine lv_icmp_ne (tgt := 69) hF.1 hF.2.1 dX0_isTooNear_51 (by decide) (fun c51_55 => ?_) (fun c51_55 => ?_)
      · refine lv_iconst (v := 0) hF.1 hF.2.1 dX0_isTooNear_69 (by decide) ?_
        exact q_iret hF hr (by decide) hlocks hU hS dX0_isTooNear_70 ⟨rfl, (g_X0_isTooNear_v11 u v x y r_6 a_41 a_48 hx hz8 hz9 hz10 hz12 hr_6 hb_12 c16_13 c25_35 ha_41_42_e ha_48_49_e c51_55)⟩
      · refine lv_iload hF.1 hF.2.1 dX0_isTooNear_54 (lv_at hl 0 rfl) ?_
        refine lv_aload_n hF.1 hF.2.1 dX0_isTooNear_56 rfl (lv_at hl 1 rfl) ?_
        refine q_get (v := .int (u.1 16)) hF hU dX0_isTooNear_57 1 0 16 16 99 rfl rfl rfl rfl inX0 (by decide) (by decide) w_184 rfl rfl ?_
        refine lv_iconst (v := 4) hF.1 hF.2.1 dX0_isTooNear_60 (by decide) ?_
        refine lv_idiv hF.1 hF.2.1 dX0_isTooNear_61 (by decide) ?_
        refine lv_icmp_ge (tgt := 69) hF.1 hF.2.1 dX0_isTooNear_62 (by decide) (fun c62_56 => ?_) (fun c62_56 => ?_)
        · refine lv_iconst (v := 0) hF.1 hF.2.1 dX0_isTooNear_69 (by decide) ?_
          exact q_iret hF hr (by decide) hlocks hU hS dX0_isTooNear_70 ⟨rfl, (g_X0_isTooNear_v12 u v x y r_6 a_41 a_48 hx hz8 hz9 hz10 hz12 hr_6 hb_12 c16_13 c25_35 ha_41_42_e ha_48_49_e c51_55 c62_56)⟩
        · refine lv_iconst (v := 1) hF.1 hF.2.1 dX0_isTooNear_65 (by decide) ?_
          refine lv_goto (tgt := 70) hF.1 hF.2.1 dX0_isTooNear_66 (by decide) ?_
          exact q_iret hF hr (by decide) hlocks hU hS dX0_isTooNear_70 ⟨rfl, (g_X0_isTooNear_v13 u v x y r_6 a_41 a_48 hx hz8 hz9 hz10 hz12 hr_6 hb_12 c16_13 c25_35 ha_41_42_e ha_48_49_e c51_55 c62_56)⟩
    · refine lv_iconst (v := 1) hF.1 hF.2.1 dX0_isTooNear_28 (by decide) ?_
      exact q_iret hF hr (by decide) hlocks hU hS dX0_isTooNear_29 ⟨rfl, (g_X0_isTooNear_v14 u v x y r_6 hx hz8 hz9 hz10 hz12 hr_6 hb_12 c16_13 c25_35)⟩
set_option maxRecDepth 100000 in
theorem g_X0_mayGo_v0 (u : qS) (x : Int32) (y : Int32) (z : Int32) (x4 : Int32) (hx : 0 ≤ x ∧ x < u.1 9) (hy : 0 ≤ y ∧ y < u.1 8) (hz8 : 0 ≤ u.1 8 ∧ u.1 8 ≤ 20) (hz9 : 0 ≤ u.1 9 ∧ u.1 9 ≤ 8) (hz10 : 0 ≤ u.1 10 ∧ u.1 10 ≤ 120) (hz12 : 0 ≤ u.1 12 ∧ u.1 12 ≤ 16) (h_k : 0 ≤ x4) (h_v : x4 ≤ u.1 10) (h_w : c_wh u x y ≤ u.1 17) (h_a : c_al u x4.toNatClampNeg x y z) (c24_1 : (u.1 10) ≤ (x4 : Int32)) : (1 = (1 : Int32) ∧ (c_mg u x y z)) ∨ (1 = (0 : Int32) ∧ ¬ (c_mg u x y z)) := by
  first
  | exact Or.inr ⟨rfl, fun q => (by have e := (by assumption : _ = c_wh u x y); have w := q.1; rw [← e] at w; exact absurd w (by assumption))⟩
  | (have h2 := (by assumption : u.2.2.2.1 2 (x4 : Int32).toNatClampNeg = some _)
     exact Or.inr ⟨rfl, fun q => q.2 x4.toNatClampNeg (by have c1 := g_clamp x4; have c2 := g_clamp (u.1 10); clear h_a h_w q; (try simp only [g_m1, Int32.lt_iff_toInt_lt, Int32.le_iff_toInt_le, ← Int32.toInt_inj, Int32.reduceToInt] at *); omega) ((c_bd_at h2).mpr ⟨by assumption, by assumption, by assumption⟩)⟩)
  | (have e : x4 = u.1 10 := Int32.toInt_inj.mp (by clear h_a h_w; (try simp only [g_m1, Int32.lt_iff_toInt_lt, Int32.le_iff_toInt_le, ← Int32.toInt_inj, Int32.reduceToInt] at *); omega)
     rw [e] at h_a; exact Or.inl ⟨rfl, h_w, h_a⟩)
set_option maxRecDepth 100000 in
theorem g_X0_mayGo_v1 (u : qS) (x : Int32) (y : Int32) (z : Int32) (x4 : Int32) (hx : 0 ≤ x ∧ x < u.1 9) (hy : 0 ≤ y ∧ y < u.1 8) (hz8 : 0 ≤ u.1 8 ∧ u.1 8 ≤ 20) (hz9 : 0 ≤ u.1 9 ∧ u.1 9 ≤ 8) (hz10 : 0 ≤ u.1 10 ∧ u.1 10 ≤ 120) (hz12 : 0 ≤ u.1 12 ∧ u.1 12 ≤ 16) (h_k : 0 ≤ x4) (h_v : x4 ≤ u.1 10) (h_w : c_wh u x y ≤ u.1 17) (h_a : c_al u x4.toNatClampNeg x y z) (c24_1 : ¬ (u.1 10) ≤ (x4 : Int32)) : 0 ≤ x4 ∧ x4 < (u.1 10) := by
  first | omega | ((try simp only [g_m1, Int32.lt_iff_toInt_lt, Int32.le_iff_toInt_le, ← Int32.toInt_inj, Int32.reduceToInt] at *); omega) | ((try simp only [g_m1, Int32.lt_iff_toInt_lt, Int32.le_iff_toInt_le, ← Int32.toInt_inj, Int32.reduceToInt] at *); omega) | ((try simp only [g_m1, Int32.lt_iff_toInt_lt, Int32.le_iff_toInt_le, ← Int32.toInt_inj, Int32.toInt_add, Int32.toInt_sub, Int32.toInt_mul, Int32.toInt_neg, Int32.reduceToInt, g_bm, g_bm'] at *); omega) | (have qr1 := g_rng x; have qr2 := g_rng y; have qr3 := g_rng z; have qr4 := g_rng x4; (try simp only [g_m1, Int32.lt_iff_toInt_lt, Int32.le_iff_toInt_le, ← Int32.toInt_inj, Int32.toInt_add, Int32.toInt_sub, Int32.toInt_mul, Int32.toInt_neg, Int32.reduceToInt, g_bm, g_bm'] at *); omega) | (simp only [g_m1, Int32.lt_iff_toInt_lt, Int32.le_iff_toInt_le, ← Int32.toInt_inj, Int32.toInt_add, Int32.toInt_sub, Int32.toInt_mul, Int32.toInt_neg, Int32.reduceToInt, g_bm, g_bm'] at *; simp at *; omega) | (simp_all; done)
set_option maxRecDepth 100000 in
theorem g_X0_mayGo_v2 (u : qS) (x : Int32) (y : Int32) (z : Int32) (x4 : Int32) (hx : 0 ≤ x ∧ x < u.1 9) (hy : 0 ≤ y ∧ y < u.1 8) (hz8 : 0 ≤ u.1 8 ∧ u.1 8 ≤ 20) (hz9 : 0 ≤ u.1 9 ∧ u.1 9 ≤ 8) (hz10 : 0 ≤ u.1 10 ∧ u.1 10 ≤ 120) (hz12 : 0 ≤ u.1 12 ∧ u.1 12 ≤ 16) (h_k : 0 ≤ x4) (h_v : x4 ≤ u.1 10) (h_w : c_wh u x y ≤ u.1 17) (h_a : c_al u x4.toNatClampNeg x y z) (c24_1 : ¬ (u.1 10) ≤ (x4 : Int32)) : vp_in (x4) 120 := by
  refine g_in ?_ ?_ <;> ((try simp only [g_m1, Int32.lt_iff_toInt_lt, Int32.le_iff_toInt_le, ← Int32.toInt_inj, Int32.toInt_add, Int32.toInt_sub, Int32.toInt_mul, Int32.toInt_neg, Int32.reduceToInt, g_bm, g_bm'] at *); omega)
set_option maxRecDepth 100000 in
theorem g_X0_mayGo_v3 (u : qS) (x : Int32) (y : Int32) (z : Int32) (x4 : Int32) (a_2 : Nat) (hx : 0 ≤ x ∧ x < u.1 9) (hy : 0 ≤ y ∧ y < u.1 8) (hz8 : 0 ≤ u.1 8 ∧ u.1 8 ≤ 20) (hz9 : 0 ≤ u.1 9 ∧ u.1 9 ≤ 8) (hz10 : 0 ≤ u.1 10 ∧ u.1 10 ≤ 120) (hz12 : 0 ≤ u.1 12 ∧ u.1 12 ≤ 16) (h_k : 0 ≤ x4) (h_v : x4 ≤ u.1 10) (h_w : c_wh u x y ≤ u.1 17) (h_a : c_al u x4.toNatClampNeg x y z) (c24_1 : ¬ (u.1 10) ≤ (x4 : Int32)) (ha_2_3_e : u.2.2.2.1 2 (x4 : Int32).toNatClampNeg = some a_2) (hb_9 : 0 ≤ qfd u.2.2.2.2 a_2 3 ∧ qfd u.2.2.2.2 a_2 3 < (u.1 9)) (c42_10 : ¬ (qfd u.2.2.2.2 a_2 3 : Int32) = x) : 0 ≤ (x4 + 1) := by
  first | omega | ((try simp only [g_m1, Int32.lt_iff_toInt_lt, Int32.le_iff_toInt_le, ← Int32.toInt_inj, Int32.reduceToInt] at *); omega) | ((try have ez0 : (x4 + 1 : Int32).toInt = (x4 : Int32).toInt + (1 : Int32).toInt := g_add (by (try simp only [g_m1, Int32.lt_iff_toInt_lt, Int32.le_iff_toInt_le, ← Int32.toInt_inj, Int32.reduceToInt] at *); omega) (by (try simp only [g_m1, Int32.lt_iff_toInt_lt, Int32.le_iff_toInt_le, ← Int32.toInt_inj, Int32.reduceToInt] at *); omega)); (try simp only [g_m1, Int32.lt_iff_toInt_lt, Int32.le_iff_toInt_le, ← Int32.toInt_inj, Int32.reduceToInt] at *); omega) | ((try simp only [g_m1, Int32.lt_iff_toInt_lt, Int32.le_iff_toInt_le, ← Int32.toInt_inj, Int32.toInt_add, Int32.toInt_sub, Int32.toInt_mul, Int32.toInt_neg, Int32.reduceToInt, g_bm, g_bm'] at *); omega) | (have qr1 := g_rng x; have qr2 := g_rng y; have qr3 := g_rng z; have qr4 := g_rng x4; (try simp only [g_m1, Int32.lt_iff_toInt_lt, Int32.le_iff_toInt_le, ← Int32.toInt_inj, Int32.toInt_add, Int32.toInt_sub, Int32.toInt_mul, Int32.toInt_neg, Int32.reduceToInt, g_bm, g_bm'] at *); omega) | (simp only [g_m1, Int32.lt_iff_toInt_lt, Int32.le_iff_toInt_le, ← Int32.toInt_inj, Int32.toInt_add, Int32.toInt_sub, Int32.toInt_mul, Int32.toInt_neg, Int32.reduceToInt, g_bm, g_bm'] at *; simp at *; omega) | (simp_all; done)
set_option maxRecDepth 100000 in
theorem g_X0_mayGo_v4 (u : qS) (x : Int32) (y : Int32) (z : Int32) (x4 : Int32) (a_2 : Nat) (hx : 0 ≤ x ∧ x < u.1 9) (hy : 0 ≤ y ∧ y < u.1 8) (hz8 : 0 ≤ u.1 8 ∧ u.1 8 ≤ 20) (hz9 : 0 ≤ u.1 9 ∧ u.1 9 ≤ 8) (hz10 : 0 ≤ u.1 10 ∧ u.1 10 ≤ 120) (hz12 : 0 ≤ u.1 12 ∧ u.1 12 ≤ 16) (h_k : 0 ≤ x4) (h_v : x4 ≤ u.1 10) (h_w : c_wh u x y ≤ u.1 17) (h_a : c_al u x4.toNatClampNeg x y z) (c24_1 : ¬ (u.1 10) ≤ (x4 : Int32)) (ha_2_3_e : u.2.2.2.1 2 (x4 : Int32).toNatClampNeg = some a_2) (hb_9 : 0 ≤ qfd u.2.2.2.2 a_2 3 ∧ qfd u.2.2.2.2 a_2 3 < (u.1 9)) (c42_10 : ¬ (qfd u.2.2.2.2 a_2 3 : Int32) = x) : (x4 + 1) ≤ u.1 10 := by
  first | omega | ((try simp only [g_m1, Int32.lt_iff_toInt_lt, Int32.le_iff_toInt_le, ← Int32.toInt_inj, Int32.reduceToInt] at *); omega) | ((try have ez0 : (x4 + 1 : Int32).toInt = (x4 : Int32).toInt + (1 : Int32).toInt := g_add (by (try simp only [g_m1, Int32.lt_iff_toInt_lt, Int32.le_iff_toInt_le, ← Int32.toInt_inj, Int32.reduceToInt] at *); omega) (by (try simp only [g_m1, Int32.lt_iff_toInt_lt, Int32.le_iff_toInt_le, ← Int32.toInt_inj, Int32.reduceToInt] at *); omega)); (try simp only [g_m1, Int32.lt_iff_toInt_lt, Int32.le_iff_toInt_le, ← Int32.toInt_inj, Int32.reduceToInt] at *); omega) | ((try simp only [g_m1, Int32.lt_iff_toInt_lt, Int32.le_iff_toInt_le, ← Int32.toInt_inj, Int32.toInt_add, Int32.toInt_sub, Int32.toInt_mul, Int32.toInt_neg, Int32.reduceToInt, g_bm, g_bm'] at *); omega) | (have qr1 := g_rng x; have qr2 := g_rng y; have qr3 := g_rng z; have qr4 := g_rng x4; (try simp only [g_m1, Int32.lt_iff_toInt_lt, Int32.le_iff_toInt_le, ← Int32.toInt_inj, Int32.toInt_add, Int32.toInt_sub, Int32.toInt_mul, Int32.toInt_neg, Int32.reduceToInt, g_bm, g_bm'] at *); omega) | (simp only [g_m1, Int32.lt_iff_toInt_lt, Int32.le_iff_toInt_le, ← Int32.toInt_inj, Int32.toInt_add, Int32.toInt_sub, Int32.toInt_mul, Int32.toInt_neg, Int32.reduceToInt, g_bm, g_bm'] at *; simp at *; omega) | (simp_all; done)
set_option maxRecDepth 100000 in
theorem g_X0_mayGo_v5 (u : qS) (x : Int32) (y : Int32) (z : Int32) (x4 : Int32) (a_2 : Nat) (hx : 0 ≤ x ∧ x < u.1 9) (hy : 0 ≤ y ∧ y < u.1 8) (hz8 : 0 ≤ u.1 8 ∧ u.1 8 ≤ 20) (hz9 : 0 ≤ u.1 9 ∧ u.1 9 ≤ 8) (hz10 : 0 ≤ u.1 10 ∧ u.1 10 ≤ 120) (hz12 : 0 ≤ u.1 12 ∧ u.1 12 ≤ 16) (h_k : 0 ≤ x4) (h_v : x4 ≤ u.1 10) (h_w : c_wh u x y ≤ u.1 17) (h_a : c_al u x4.toNatClampNeg x y z) (c24_1 : ¬ (u.1 10) ≤ (x4 : Int32)) (ha_2_3_e : u.2.2.2.1 2 (x4 : Int32).toNatClampNeg = some a_2) (hb_9 : 0 ≤ qfd u.2.2.2.2 a_2 3 ∧ qfd u.2.2.2.2 a_2 3 < (u.1 9)) (c42_10 : ¬ (qfd u.2.2.2.2 a_2 3 : Int32) = x) : c_wh u x y ≤ u.1 17 := by
  exact h_w
set_option maxRecDepth 100000 in
theorem g_X0_mayGo_v6 (u : qS) (x : Int32) (y : Int32) (z : Int32) (x4 : Int32) (a_2 : Nat) (hx : 0 ≤ x ∧ x < u.1 9) (hy : 0 ≤ y ∧ y < u.1 8) (hz8 : 0 ≤ u.1 8 ∧ u.1 8 ≤ 20) (hz9 : 0 ≤ u.1 9 ∧ u.1 9 ≤ 8) (hz10 : 0 ≤ u.1 10 ∧ u.1 10 ≤ 120) (hz12 : 0 ≤ u.1 12 ∧ u.1 12 ≤ 16) (h_k : 0 ≤ x4) (h_v : x4 ≤ u.1 10) (h_w : c_wh u x y ≤ u.1 17) (h_a : c_al u x4.toNatClampNeg x y z) (c24_1 : ¬ (u.1 10) ≤ (x4 : Int32)) (ha_2_3_e : u.2.2.2.1 2 (x4 : Int32).toNatClampNeg = some a_2) (hb_9 : 0 ≤ qfd u.2.2.2.2 a_2 3 ∧ qfd u.2.2.2.2 a_2 3 < (u.1 9)) (c42_10 : ¬ (qfd u.2.2.2.2 a_2 3 : Int32) = x) : c_al u (x4 + 1).toNatClampNeg x y z := by
  have q0 : 0 ≤ x4.toInt := (by clear h_a h_w; (try simp only [g_m1, Int32.lt_iff_toInt_lt, Int32.le_iff_toInt_le, ← Int32.toInt_inj, Int32.reduceToInt] at *); omega)
  have q1 : x4.toInt < 120 := (by clear h_a h_w; (try simp only [g_m1, Int32.lt_iff_toInt_lt, Int32.le_iff_toInt_le, ← Int32.toInt_inj, Int32.reduceToInt] at *); omega)
  have e4 := (g_up (i := x4) q0 (by omega)).2
  rw [e4]
  refine h_a.up (fun q => ?_)
  have h2 := (by assumption : u.2.2.2.1 2 (x4 : Int32).toNatClampNeg = some _)
  have w := (c_bd_at h2).mp q
  first | exact absurd w.1 (by assumption) | exact absurd w.2.1 (by assumption) | exact absurd w.2.2 (by assumption)
set_option maxRecDepth 100000 in
theorem g_X0_mayGo_v7 (u : qS) (x : Int32) (y : Int32) (z : Int32) (x4 : Int32) (a_2 : Nat) (hx : 0 ≤ x ∧ x < u.1 9) (hy : 0 ≤ y ∧ y < u.1 8) (hz8 : 0 ≤ u.1 8 ∧ u.1 8 ≤ 20) (hz9 : 0 ≤ u.1 9 ∧ u.1 9 ≤ 8) (hz10 : 0 ≤ u.1 10 ∧ u.1 10 ≤ 120) (hz12 : 0 ≤ u.1 12 ∧ u.1 12 ≤ 16) (h_k : 0 ≤ x4) (h_v : x4 ≤ u.1 10) (h_w : c_wh u x y ≤ u.1 17) (h_a : c_al u x4.toNatClampNeg x y z) (c24_1 : ¬ (u.1 10) ≤ (x4 : Int32)) (ha_2_3_e : u.2.2.2.1 2 (x4 : Int32).toNatClampNeg = some a_2) (hb_9 : 0 ≤ qfd u.2.2.2.2 a_2 3 ∧ qfd u.2.2.2.2 a_2 3 < (u.1 9)) (c42_10 : ¬ (qfd u.2.2.2.2 a_2 3 : Int32) = x) : ((u.1 10).toInt - (x4 + 1).toInt).toNat < ((u.1 10).toInt - x4.toInt).toNat := by
  first | omega | ((try simp only [g_m1, Int32.lt_iff_toInt_lt, Int32.le_iff_toInt_le, ← Int32.toInt_inj, Int32.reduceToInt] at *); omega) | ((try have ez0 : (x4 + 1 : Int32).toInt = (x4 : Int32).toInt + (1 : Int32).toInt := g_add (by (try simp only [g_m1, Int32.lt_iff_toInt_lt, Int32.le_iff_toInt_le, ← Int32.toInt_inj, Int32.reduceToInt] at *); omega) (by (try simp only [g_m1, Int32.lt_iff_toInt_lt, Int32.le_iff_toInt_le, ← Int32.toInt_inj, Int32.reduceToInt] at *); omega)); (try simp only [g_m1, Int32.lt_iff_toInt_lt, Int32.le_iff_toInt_le, ← Int32.toInt_inj, Int32.reduceToInt] at *); omega) | ((try simp only [g_m1, Int32.lt_iff_toInt_lt, Int32.le_iff_toInt_le, ← Int32.toInt_inj, Int32.toInt_add, Int32.toInt_sub, Int32.toInt_mul, Int32.toInt_neg, Int32.reduceToInt, g_bm, g_bm'] at *); omega) | (have qr1 := g_rng x; have qr2 := g_rng y; have qr3 := g_rng z; have qr4 := g_rng x4; (try simp only [g_m1, Int32.lt_iff_toInt_lt, Int32.le_iff_toInt_le, ← Int32.toInt_inj, Int32.toInt_add, Int32.toInt_sub, Int32.toInt_mul, Int32.toInt_neg, Int32.reduceToInt, g_bm, g_bm'] at *); omega) | (simp only [g_m1, Int32.lt_iff_toInt_lt, Int32.le_iff_toInt_le, ← Int32.toInt_inj, Int32.toInt_add, Int32.toInt_sub, Int32.toInt_mul, Int32.toInt_neg, Int32.reduceToInt, g_bm, g_bm'] at *; simp at *; omega) | (simp_all; done)
set_option maxRecDepth 100000 in
theorem g_X0_mayGo_v8 (u : qS) (x : Int32) (y : Int32) (z : Int32) (x4 : Int32) (a_2 : Nat) (hx : 0 ≤ x ∧ x < u.1 9) (hy : 0 ≤ y ∧ y < u.1 8) (hz8 : 0 ≤ u.1 8 ∧ u.1 8 ≤ 20) (hz9 : 0 ≤ u.1 9 ∧ u.1 9 ≤ 8) (hz10 : 0 ≤ u.1 10 ∧ u.1 10 ≤ 120) (hz12 : 0 ≤ u.1 12 ∧ u.1 12 ≤ 16) (h_k : 0 ≤ x4) (h_v : x4 ≤ u.1 10) (h_w : c_wh u x y ≤ u.1 17) (h_a : c_al u x4.toNatClampNeg x y z) (c24_1 : ¬ (u.1 10) ≤ (x4 : Int32)) (ha_2_3_e : u.2.2.2.1 2 (x4 : Int32).toNatClampNeg = some a_2) (hb_9 : 0 ≤ qfd u.2.2.2.2 a_2 3 ∧ qfd u.2.2.2.2 a_2 3 < (u.1 9)) (c42_10 : (qfd u.2.2.2.2 a_2 3 : Int32) = x) (b48_14 : qfd u.2.2.2.2 a_2 1 ≤ c_sd u) : 0 ≤ y ∧ y < (u.1 8 : Int32) := by
  first | omega | ((try simp only [g_m1, Int32.lt_iff_toInt_lt, Int32.le_iff_toInt_le, ← Int32.toInt_inj, Int32.reduceToInt] at *); omega) | ((try simp only [g_m1, Int32.lt_iff_toInt_lt, Int32.le_iff_toInt_le, ← Int32.toInt_inj, Int32.reduceToInt] at *); omega) | ((try simp only [g_m1, Int32.lt_iff_toInt_lt, Int32.le_iff_toInt_le, ← Int32.toInt_inj, Int32.toInt_add, Int32.toInt_sub, Int32.toInt_mul, Int32.toInt_neg, Int32.reduceToInt, g_bm, g_bm'] at *); omega) | (have qr1 := g_rng x; have qr2 := g_rng y; have qr3 := g_rng z; have qr4 := g_rng x4; (try simp only [g_m1, Int32.lt_iff_toInt_lt, Int32.le_iff_toInt_le, ← Int32.toInt_inj, Int32.toInt_add, Int32.toInt_sub, Int32.toInt_mul, Int32.toInt_neg, Int32.reduceToInt, g_bm, g_bm'] at *); omega) | (simp only [g_m1, Int32.lt_iff_toInt_lt, Int32.le_iff_toInt_le, ← Int32.toInt_inj, Int32.toInt_add, Int32.toInt_sub, Int32.toInt_mul, Int32.toInt_neg, Int32.reduceToInt, g_bm, g_bm'] at *; simp at *; omega) | (simp_all; done)
set_option maxRecDepth 100000 in
theorem g_X0_mayGo_v9 (u : qS) (x : Int32) (y : Int32) (z : Int32) (x4 : Int32) (a_2 : Nat) (hx : 0 ≤ x ∧ x < u.1 9) (hy : 0 ≤ y ∧ y < u.1 8) (hz8 : 0 ≤ u.1 8 ∧ u.1 8 ≤ 20) (hz9 : 0 ≤ u.1 9 ∧ u.1 9 ≤ 8) (hz10 : 0 ≤ u.1 10 ∧ u.1 10 ≤ 120) (hz12 : 0 ≤ u.1 12 ∧ u.1 12 ≤ 16) (h_k : 0 ≤ x4) (h_v : x4 ≤ u.1 10) (h_w : c_wh u x y ≤ u.1 17) (h_a : c_al u x4.toNatClampNeg x y z) (c24_1 : ¬ (u.1 10) ≤ (x4 : Int32)) (ha_2_3_e : u.2.2.2.1 2 (x4 : Int32).toNatClampNeg = some a_2) (hb_9 : 0 ≤ qfd u.2.2.2.2 a_2 3 ∧ qfd u.2.2.2.2 a_2 3 < (u.1 9)) (c42_10 : (qfd u.2.2.2.2 a_2 3 : Int32) = x) (b48_14 : qfd u.2.2.2.2 a_2 1 ≤ c_sd u) (b59_18 : c_tn u a_2 y z) : (0 = (1 : Int32) ∧ (c_mg u x y z)) ∨ (0 = (0 : Int32) ∧ ¬ (c_mg u x y z)) := by
  first
  | exact Or.inr ⟨rfl, fun q => (by have e := (by assumption : _ = c_wh u x y); have w := q.1; rw [← e] at w; exact absurd w (by assumption))⟩
  | (have h2 := (by assumption : u.2.2.2.1 2 (x4 : Int32).toNatClampNeg = some _)
     exact Or.inr ⟨rfl, fun q => q.2 x4.toNatClampNeg (by have c1 := g_clamp x4; have c2 := g_clamp (u.1 10); clear h_a h_w q; (try simp only [g_m1, Int32.lt_iff_toInt_lt, Int32.le_iff_toInt_le, ← Int32.toInt_inj, Int32.reduceToInt] at *); omega) ((c_bd_at h2).mpr ⟨by assumption, by assumption, by assumption⟩)⟩)
  | (have e : x4 = u.1 10 := Int32.toInt_inj.mp (by clear h_a h_w; (try simp only [g_m1, Int32.lt_iff_toInt_lt, Int32.le_iff_toInt_le, ← Int32.toInt_inj, Int32.reduceToInt] at *); omega)
     rw [e] at h_a; exact Or.inl ⟨rfl, h_w, h_a⟩)
set_option maxRecDepth 100000 in
theorem g_X0_mayGo_v10 (u : qS) (x : Int32) (y : Int32) (z : Int32) (x4 : Int32) (a_2 : Nat) (hx : 0 ≤ x ∧ x < u.1 9) (hy : 0 ≤ y ∧ y < u.1 8) (hz8 : 0 ≤ u.1 8 ∧ u.1 8 ≤ 20) (hz9 : 0 ≤ u.1 9 ∧ u.1 9 ≤ 8) (hz10 : 0 ≤ u.1 10 ∧ u.1 10 ≤ 120) (hz12 : 0 ≤ u.1 12 ∧ u.1 12 ≤ 16) (h_k : 0 ≤ x4) (h_v : x4 ≤ u.1 10) (h_w : c_wh u x y ≤ u.1 17) (h_a : c_al u x4.toNatClampNeg x y z) (c24_1 : ¬ (u.1 10) ≤ (x4 : Int32)) (ha_2_3_e : u.2.2.2.1 2 (x4 : Int32).toNatClampNeg = some a_2) (hb_9 : 0 ≤ qfd u.2.2.2.2 a_2 3 ∧ qfd u.2.2.2.2 a_2 3 < (u.1 9)) (c42_10 : (qfd u.2.2.2.2 a_2 3 : Int32) = x) (b48_14 : qfd u.2.2.2.2 a_2 1 ≤ c_sd u) (b59_18 : ¬ (c_tn u a_2 y z)) : 0 ≤ (x4 + 1) := by
  first | omega | ((try simp only [g_m1, Int32.lt_iff_toInt_lt, Int32.le_iff_toInt_le, ← Int32.toInt_inj, Int32.reduceToInt] at *); omega) | ((try have ez0 : (x4 + 1 : Int32).toInt = (x4 : Int32).toInt + (1 : Int32).toInt := g_add (by (try simp only [g_m1, Int32.lt_iff_toInt_lt, Int32.le_iff_toInt_le, ← Int32.toInt_inj, Int32.reduceToInt] at *); omega) (by (try simp only [g_m1, Int32.lt_iff_toInt_lt, Int32.le_iff_toInt_le, ← Int32.toInt_inj, Int32.reduceToInt] at *); omega)); (try simp only [g_m1, Int32.lt_iff_toInt_lt, Int32.le_iff_toInt_le, ← Int32.toInt_inj, Int32.reduceToInt] at *); omega) | ((try simp only [g_m1, Int32.lt_iff_toInt_lt, Int32.le_iff_toInt_le, ← Int32.toInt_inj, Int32.toInt_add, Int32.toInt_sub, Int32.toInt_mul, Int32.toInt_neg, Int32.reduceToInt, g_bm, g_bm'] at *); omega) | (have qr1 := g_rng x; have qr2 := g_rng y; have qr3 := g_rng z; have qr4 := g_rng x4; (try simp only [g_m1, Int32.lt_iff_toInt_lt, Int32.le_iff_toInt_le, ← Int32.toInt_inj, Int32.toInt_add, Int32.toInt_sub, Int32.toInt_mul, Int32.toInt_neg, Int32.reduceToInt, g_bm, g_bm'] at *); omega) | (simp only [g_m1, Int32.lt_iff_toInt_lt, Int32.le_iff_toInt_le, ← Int32.toInt_inj, Int32.toInt_add, Int32.toInt_sub, Int32.toInt_mul, Int32.toInt_neg, Int32.reduceToInt, g_bm, g_bm'] at *; simp at *; omega) | (simp_all; done)
set_option maxRecDepth 100000 in
theorem g_X0_mayGo_v11 (u : qS) (x : Int32) (y : Int32) (z : Int32) (x4 : Int32) (a_2 : Nat) (hx : 0 ≤ x ∧ x < u.1 9) (hy : 0 ≤ y ∧ y < u.1 8) (hz8 : 0 ≤ u.1 8 ∧ u.1 8 ≤ 20) (hz9 : 0 ≤ u.1 9 ∧ u.1 9 ≤ 8) (hz10 : 0 ≤ u.1 10 ∧ u.1 10 ≤ 120) (hz12 : 0 ≤ u.1 12 ∧ u.1 12 ≤ 16) (h_k : 0 ≤ x4) (h_v : x4 ≤ u.1 10) (h_w : c_wh u x y ≤ u.1 17) (h_a : c_al u x4.toNatClampNeg x y z) (c24_1 : ¬ (u.1 10) ≤ (x4 : Int32)) (ha_2_3_e : u.2.2.2.1 2 (x4 : Int32).toNatClampNeg = some a_2) (hb_9 : 0 ≤ qfd u.2.2.2.2 a_2 3 ∧ qfd u.2.2.2.2 a_2 3 < (u.1 9)) (c42_10 : (qfd u.2.2.2.2 a_2 3 : Int32) = x) (b48_14 : qfd u.2.2.2.2 a_2 1 ≤ c_sd u) (b59_18 : ¬ (c_tn u a_2 y z)) : (x4 + 1) ≤ u.1 10 := by
  first | omega | ((try simp only [g_m1, Int32.lt_iff_toInt_lt, Int32.le_iff_toInt_le, ← Int32.toInt_inj, Int32.reduceToInt] at *); omega) | ((try have ez0 : (x4 + 1 : Int32).toInt = (x4 : Int32).toInt + (1 : Int32).toInt := g_add (by (try simp only [g_m1, Int32.lt_iff_toInt_lt, Int32.le_iff_toInt_le, ← Int32.toInt_inj, Int32.reduceToInt] at *); omega) (by (try simp only [g_m1, Int32.lt_iff_toInt_lt, Int32.le_iff_toInt_le, ← Int32.toInt_inj, Int32.reduceToInt] at *); omega)); (try simp only [g_m1, Int32.lt_iff_toInt_lt, Int32.le_iff_toInt_le, ← Int32.toInt_inj, Int32.reduceToInt] at *); omega) | ((try simp only [g_m1, Int32.lt_iff_toInt_lt, Int32.le_iff_toInt_le, ← Int32.toInt_inj, Int32.toInt_add, Int32.toInt_sub, Int32.toInt_mul, Int32.toInt_neg, Int32.reduceToInt, g_bm, g_bm'] at *); omega) | (have qr1 := g_rng x; have qr2 := g_rng y; have qr3 := g_rng z; have qr4 := g_rng x4; (try simp only [g_m1, Int32.lt_iff_toInt_lt, Int32.le_iff_toInt_le, ← Int32.toInt_inj, Int32.toInt_add, Int32.toInt_sub, Int32.toInt_mul, Int32.toInt_neg, Int32.reduceToInt, g_bm, g_bm'] at *); omega) | (simp only [g_m1, Int32.lt_iff_toInt_lt, Int32.le_iff_toInt_le, ← Int32.toInt_inj, Int32.toInt_add, Int32.toInt_sub, Int32.toInt_mul, Int32.toInt_neg, Int32.reduceToInt, g_bm, g_bm'] at *; simp at *; omega) | (simp_all; done)
set_option maxRecDepth 100000 in
theorem g_X0_mayGo_v12 (u : qS) (x : Int32) (y : Int32) (z : Int32) (x4 : Int32) (a_2 : Nat) (hx : 0 ≤ x ∧ x < u.1 9) (hy : 0 ≤ y ∧ y < u.1 8) (hz8 : 0 ≤ u.1 8 ∧ u.1 8 ≤ 20) (hz9 : 0 ≤ u.1 9 ∧ u.1 9 ≤ 8) (hz10 : 0 ≤ u.1 10 ∧ u.1 10 ≤ 120) (hz12 : 0 ≤ u.1 12 ∧ u.1 12 ≤ 16) (h_k : 0 ≤ x4) (h_v : x4 ≤ u.1 10) (h_w : c_wh u x y ≤ u.1 17) (h_a : c_al u x4.toNatClampNeg x y z) (c24_1 : ¬ (u.1 10) ≤ (x4 : Int32)) (ha_2_3_e : u.2.2.2.1 2 (x4 : Int32).toNatClampNeg = some a_2) (hb_9 : 0 ≤ qfd u.2.2.2.2 a_2 3 ∧ qfd u.2.2.2.2 a_2 3 < (u.1 9)) (c42_10 : (qfd u.2.2.2.2 a_2 3 : Int32) = x) (b48_14 : qfd u.2.2.2.2 a_2 1 ≤ c_sd u) (b59_18 : ¬ (c_tn u a_2 y z)) : c_wh u x y ≤ u.1 17 := by
  exact h_w
set_option maxRecDepth 100000 in
theorem g_X0_mayGo_v13 (u : qS) (x : Int32) (y : Int32) (z : Int32) (x4 : Int32) (a_2 : Nat) (hx : 0 ≤ x ∧ x < u.1 9) (hy : 0 ≤ y ∧ y < u.1 8) (hz8 : 0 ≤ u.1 8 ∧ u.1 8 ≤ 20) (hz9 : 0 ≤ u.1 9 ∧ u.1 9 ≤ 8) (hz10 : 0 ≤ u.1 10 ∧ u.1 10 ≤ 120) (hz12 : 0 ≤ u.1 12 ∧ u.1 12 ≤ 16) (h_k : 0 ≤ x4) (h_v : x4 ≤ u.1 10) (h_w : c_wh u x y ≤ u.1 17) (h_a : c_al u x4.toNatClampNeg x y z) (c24_1 : ¬ (u.1 10) ≤ (x4 : Int32)) (ha_2_3_e : u.2.2.2.1 2 (x4 : Int32).toNatClampNeg = some a_2) (hb_9 : 0 ≤ qfd u.2.2.2.2 a_2 3 ∧ qfd u.2.2.2.2 a_2 3 < (u.1 9)) (c42_10 : (qfd u.2.2.2.2 a_2 3 : Int32) = x) (b48_14 : qfd u.2.2.2.2 a_2 1 ≤ c_sd u) (b59_18 : ¬ (c_tn u a_2 y z)) : c_al u (x4 + 1).toNatClampNeg x y z := by
  have q0 : 0 ≤ x4.toInt := (by clear h_a h_w; (try simp only [g_m1, Int32.lt_iff_toInt_lt, Int32.le_iff_toInt_le, ← Int32.toInt_inj, Int32.reduceToInt] at *); omega)
  have q1 : x4.toInt < 120 := (by clear h_a h_w; (try simp only [g_m1, Int32.lt_iff_toInt_lt, Int32.le_iff_toInt_le, ← Int32.toInt_inj, Int32.reduceToInt] at *); omega)
  have e4 := (g_up (i := x4) q0 (by omega)).2
  rw [e4]
  refine h_a.up (fun q => ?_)
  have h2 := (by assumption : u.2.2.2.1 2 (x4 : Int32).toNatClampNeg = some _)
  have w := (c_bd_at h2).mp q
  first | exact absurd w.1 (by assumption) | exact absurd w.2.1 (by assumption) | exact absurd w.2.2 (by assumption)
set_option maxRecDepth 100000 in
theorem g_X0_mayGo_v14 (u : qS) (x : Int32) (y : Int32) (z : Int32) (x4 : Int32) (a_2 : Nat) (hx : 0 ≤ x ∧ x < u.1 9) (hy : 0 ≤ y ∧ y < u.1 8) (hz8 : 0 ≤ u.1 8 ∧ u.1 8 ≤ 20) (hz9 : 0 ≤ u.1 9 ∧ u.1 9 ≤ 8) (hz10 : 0 ≤ u.1 10 ∧ u.1 10 ≤ 120) (hz12 : 0 ≤ u.1 12 ∧ u.1 12 ≤ 16) (h_k : 0 ≤ x4) (h_v : x4 ≤ u.1 10) (h_w : c_wh u x y ≤ u.1 17) (h_a : c_al u x4.toNatClampNeg x y z) (c24_1 : ¬ (u.1 10) ≤ (x4 : Int32)) (ha_2_3_e : u.2.2.2.1 2 (x4 : Int32).toNatClampNeg = some a_2) (hb_9 : 0 ≤ qfd u.2.2.2.2 a_2 3 ∧ qfd u.2.2.2.2 a_2 3 < (u.1 9)) (c42_10 : (qfd u.2.2.2.2 a_2 3 : Int32) = x) (b48_14 : qfd u.2.2.2.2 a_2 1 ≤ c_sd u) (b59_18 : ¬ (c_tn u a_2 y z)) : ((u.1 10).toInt - (x4 + 1).toInt).toNat < ((u.1 10).toInt - x4.toInt).toNat := by
  first | omega | ((try simp only [g_m1, Int32.lt_iff_toInt_lt, Int32.le_iff_toInt_le, ← Int32.toInt_inj, Int32.reduceToInt] at *); omega) | ((try have ez0 : (x4 + 1 : Int32).toInt = (x4 : Int32).toInt + (1 : Int32).toInt := g_add (by (try simp only [g_m1, Int32.lt_iff_toInt_lt, Int32.le_iff_toInt_le, ← Int32.toInt_inj, Int32.reduceToInt] at *); omega) (by (try simp only [g_m1, Int32.lt_iff_toInt_lt, Int32.le_iff_toInt_le, ← Int32.toInt_inj, Int32.reduceToInt] at *); omega)); (try simp only [g_m1, Int32.lt_iff_toInt_lt, Int32.le_iff_toInt_le, ← Int32.toInt_inj, Int32.reduceToInt] at *); omega) | ((try simp only [g_m1, Int32.lt_iff_toInt_lt, Int32.le_iff_toInt_le, ← Int32.toInt_inj, Int32.toInt_add, Int32.toInt_sub, Int32.toInt_mul, Int32.toInt_neg, Int32.reduceToInt, g_bm, g_bm'] at *); omega) | (have qr1 := g_rng x; have qr2 := g_rng y; have qr3 := g_rng z; have qr4 := g_rng x4; (try simp only [g_m1, Int32.lt_iff_toInt_lt, Int32.le_iff_toInt_le, ← Int32.toInt_inj, Int32.toInt_add, Int32.toInt_sub, Int32.toInt_mul, Int32.toInt_neg, Int32.reduceToInt, g_bm, g_bm'] at *); omega) | (simp only [g_m1, Int32.lt_iff_toInt_lt, Int32.le_iff_toInt_le, ← Int32.toInt_inj, Int32.toInt_add, Int32.toInt_sub, Int32.toInt_mul, Int32.toInt_neg, Int32.reduceToInt, g_bm, g_bm'] at *; simp at *; omega) | (simp_all; done)
set_option maxRecDepth 100000 in
theorem g_X0_mayGo_v15 (u : qS) (x : Int32) (y : Int32) (z : Int32) (x4 : Int32) (a_2 : Nat) (hx : 0 ≤ x ∧ x < u.1 9) (hy : 0 ≤ y ∧ y < u.1 8) (hz8 : 0 ≤ u.1 8 ∧ u.1 8 ≤ 20) (hz9 : 0 ≤ u.1 9 ∧ u.1 9 ≤ 8) (hz10 : 0 ≤ u.1 10 ∧ u.1 10 ≤ 120) (hz12 : 0 ≤ u.1 12 ∧ u.1 12 ≤ 16) (h_k : 0 ≤ x4) (h_v : x4 ≤ u.1 10) (h_w : c_wh u x y ≤ u.1 17) (h_a : c_al u x4.toNatClampNeg x y z) (c24_1 : ¬ (u.1 10) ≤ (x4 : Int32)) (ha_2_3_e : u.2.2.2.1 2 (x4 : Int32).toNatClampNeg = some a_2) (hb_9 : 0 ≤ qfd u.2.2.2.2 a_2 3 ∧ qfd u.2.2.2.2 a_2 3 < (u.1 9)) (c42_10 : (qfd u.2.2.2.2 a_2 3 : Int32) = x) (b48_14 : ¬ (qfd u.2.2.2.2 a_2 1 ≤ c_sd u)) : 0 ≤ (x4 + 1) := by
  first | omega | ((try simp only [g_m1, Int32.lt_iff_toInt_lt, Int32.le_iff_toInt_le, ← Int32.toInt_inj, Int32.reduceToInt] at *); omega) | ((try have ez0 : (x4 + 1 : Int32).toInt = (x4 : Int32).toInt + (1 : Int32).toInt := g_add (by (try simp only [g_m1, Int32.lt_iff_toInt_lt, Int32.le_iff_toInt_le, ← Int32.toInt_inj, Int32.reduceToInt] at *); omega) (by (try simp only [g_m1, Int32.lt_iff_toInt_lt, Int32.le_iff_toInt_le, ← Int32.toInt_inj, Int32.reduceToInt] at *); omega)); (try simp only [g_m1, Int32.lt_iff_toInt_lt, Int32.le_iff_toInt_le, ← Int32.toInt_inj, Int32.reduceToInt] at *); omega) | ((try simp only [g_m1, Int32.lt_iff_toInt_lt, Int32.le_iff_toInt_le, ← Int32.toInt_inj, Int32.toInt_add, Int32.toInt_sub, Int32.toInt_mul, Int32.toInt_neg, Int32.reduceToInt, g_bm, g_bm'] at *); omega) | (have qr1 := g_rng x; have qr2 := g_rng y; have qr3 := g_rng z; have qr4 := g_rng x4; (try simp only [g_m1, Int32.lt_iff_toInt_lt, Int32.le_iff_toInt_le, ← Int32.toInt_inj, Int32.toInt_add, Int32.toInt_sub, Int32.toInt_mul, Int32.toInt_neg, Int32.reduceToInt, g_bm, g_bm'] at *); omega) | (simp only [g_m1, Int32.lt_iff_toInt_lt, Int32.le_iff_toInt_le, ← Int32.toInt_inj, Int32.toInt_add, Int32.toInt_sub, Int32.toInt_mul, Int32.toInt_neg, Int32.reduceToInt, g_bm, g_bm'] at *; simp at *; omega) | (simp_all; done)
set_option maxRecDepth 100000 in
theorem g_X0_mayGo_v16 (u : qS) (x : Int32) (y : Int32) (z : Int32) (x4 : Int32) (a_2 : Nat) (hx : 0 ≤ x ∧ x < u.1 9) (hy : 0 ≤ y ∧ y < u.1 8) (hz8 : 0 ≤ u.1 8 ∧ u.1 8 ≤ 20) (hz9 : 0 ≤ u.1 9 ∧ u.1 9 ≤ 8) (hz10 : 0 ≤ u.1 10 ∧ u.1 10 ≤ 120) (hz12 : 0 ≤ u.1 12 ∧ u.1 12 ≤ 16) (h_k : 0 ≤ x4) (h_v : x4 ≤ u.1 10) (h_w : c_wh u x y ≤ u.1 17) (h_a : c_al u x4.toNatClampNeg x y z) (c24_1 : ¬ (u.1 10) ≤ (x4 : Int32)) (ha_2_3_e : u.2.2.2.1 2 (x4 : Int32).toNatClampNeg = some a_2) (hb_9 : 0 ≤ qfd u.2.2.2.2 a_2 3 ∧ qfd u.2.2.2.2 a_2 3 < (u.1 9)) (c42_10 : (qfd u.2.2.2.2 a_2 3 : Int32) = x) (b48_14 : ¬ (qfd u.2.2.2.2 a_2 1 ≤ c_sd u)) : (x4 + 1) ≤ u.1 10 := by
  first | omega | ((try simp only [g_m1, Int32.lt_iff_toInt_lt, Int32.le_iff_toInt_le, ← Int32.toInt_inj, Int32.reduceToInt] at *); omega) | ((try have ez0 : (x4 + 1 : Int32).toInt = (x4 : Int32).toInt + (1 : Int32).toInt := g_add (by (try simp only [g_m1, Int32.lt_iff_toInt_lt, Int32.le_iff_toInt_le, ← Int32.toInt_inj, Int32.reduceToInt] at *); omega) (by (try simp only [g_m1, Int32.lt_iff_toInt_lt, Int32.le_iff_toInt_le, ← Int32.toInt_inj, Int32.reduceToInt] at *); omega)); (try simp only [g_m1, Int32.lt_iff_toInt_lt, Int32.le_iff_toInt_le, ← Int32.toInt_inj, Int32.reduceToInt] at *); omega) | ((try simp only [g_m1, Int32.lt_iff_toInt_lt, Int32.le_iff_toInt_le, ← Int32.toInt_inj, Int32.toInt_add, Int32.toInt_sub, Int32.toInt_mul, Int32.toInt_neg, Int32.reduceToInt, g_bm, g_bm'] at *); omega) | (have qr1 := g_rng x; have qr2 := g_rng y; have qr3 := g_rng z; have qr4 := g_rng x4; (try simp only [g_m1, Int32.lt_iff_toInt_lt, Int32.le_iff_toInt_le, ← Int32.toInt_inj, Int32.toInt_add, Int32.toInt_sub, Int32.toInt_mul, Int32.toInt_neg, Int32.reduceToInt, g_bm, g_bm'] at *); omega) | (simp only [g_m1, Int32.lt_iff_toInt_lt, Int32.le_iff_toInt_le, ← Int32.toInt_inj, Int32.toInt_add, Int32.toInt_sub, Int32.toInt_mul, Int32.toInt_neg, Int32.reduceToInt, g_bm, g_bm'] at *; simp at *; omega) | (simp_all; done)
set_option maxRecDepth 100000 in
theorem g_X0_mayGo_v17 (u : qS) (x : Int32) (y : Int32) (z : Int32) (x4 : Int32) (a_2 : Nat) (hx : 0 ≤ x ∧ x < u.1 9) (hy : 0 ≤ y ∧ y < u.1 8) (hz8 : 0 ≤ u.1 8 ∧ u.1 8 ≤ 20) (hz9 : 0 ≤ u.1 9 ∧ u.1 9 ≤ 8) (hz10 : 0 ≤ u.1 10 ∧ u.1 10 ≤ 120) (hz12 : 0 ≤ u.1 12 ∧ u.1 12 ≤ 16) (h_k : 0 ≤ x4) (h_v : x4 ≤ u.1 10) (h_w : c_wh u x y ≤ u.1 17) (h_a : c_al u x4.toNatClampNeg x y z) (c24_1 : ¬ (u.1 10) ≤ (x4 : Int32)) (ha_2_3_e : u.2.2.2.1 2 (x4 : Int32).toNatClampNeg = some a_2) (hb_9 : 0 ≤ qfd u.2.2.2.2 a_2 3 ∧ qfd u.2.2.2.2 a_2 3 < (u.1 9)) (c42_10 : (qfd u.2.2.2.2 a_2 3 : Int32) = x) (b48_14 : ¬ (qfd u.2.2.2.2 a_2 1 ≤ c_sd u)) : c_wh u x y ≤ u.1 17 := by
  exact h_w
set_option maxRecDepth 100000 in
theorem g_X0_mayGo_v18 (u : qS) (x : Int32) (y : Int32) (z : Int32) (x4 : Int32) (a_2 : Nat) (hx : 0 ≤ x ∧ x < u.1 9) (hy : 0 ≤ y ∧ y < u.1 8) (hz8 : 0 ≤ u.1 8 ∧ u.1 8 ≤ 20) (hz9 : 0 ≤ u.1 9 ∧ u.1 9 ≤ 8) (hz10 : 0 ≤ u.1 10 ∧ u.1 10 ≤ 120) (hz12 : 0 ≤ u.1 12 ∧ u.1 12 ≤ 16) (h_k : 0 ≤ x4) (h_v : x4 ≤ u.1 10) (h_w : c_wh u x y ≤ u.1 17) (h_a : c_al u x4.toNatClampNeg x y z) (c24_1 : ¬ (u.1 10) ≤ (x4 : Int32)) (ha_2_3_e : u.2.2.2.1 2 (x4 : Int32).toNatClampNeg = some a_2) (hb_9 : 0 ≤ qfd u.2.2.2.2 a_2 3 ∧ qfd u.2.2.2.2 a_2 3 < (u.1 9)) (c42_10 : (qfd u.2.2.2.2 a_2 3 : Int32) = x) (b48_14 : ¬ (qfd u.2.2.2.2 a_2 1 ≤ c_sd u)) : c_al u (x4 + 1).toNatClampNeg x y z := by
  have q0 : 0 ≤ x4.toInt := (by clear h_a h_w; (try simp only [g_m1, Int32.lt_iff_toInt_lt, Int32.le_iff_toInt_le, ← Int32.toInt_inj, Int32.reduceToInt] at *); omega)
  have q1 : x4.toInt < 120 := (by clear h_a h_w; (try simp only [g_m1, Int32.lt_iff_toInt_lt, Int32.le_iff_toInt_le, ← Int32.toInt_inj, Int32.reduceToInt] at *); omega)
  have e4 := (g_up (i := x4) q0 (by omega)).2
  rw [e4]
  refine h_a.up (fun q => ?_)
  have h2 := (by assumption : u.2.2.2.1 2 (x4 : Int32).toNatClampNeg = some _)
  have w := (c_bd_at h2).mp q
  first | exact absurd w.1 (by assumption) | exact absurd w.2.1 (by assumption) | exact absurd w.2.2 (by assumption)
set_option maxRecDepth 100000 in
theorem g_X0_mayGo_v19 (u : qS) (x : Int32) (y : Int32) (z : Int32) (x4 : Int32) (a_2 : Nat) (hx : 0 ≤ x ∧ x < u.1 9) (hy : 0 ≤ y ∧ y < u.1 8) (hz8 : 0 ≤ u.1 8 ∧ u.1 8 ≤ 20) (hz9 : 0 ≤ u.1 9 ∧ u.1 9 ≤ 8) (hz10 : 0 ≤ u.1 10 ∧ u.1 10 ≤ 120) (hz12 : 0 ≤ u.1 12 ∧ u.1 12 ≤ 16) (h_k : 0 ≤ x4) (h_v : x4 ≤ u.1 10) (h_w : c_wh u x y ≤ u.1 17) (h_a : c_al u x4.toNatClampNeg x y z) (c24_1 : ¬ (u.1 10) ≤ (x4 : Int32)) (ha_2_3_e : u.2.2.2.1 2 (x4 : Int32).toNatClampNeg = some a_2) (hb_9 : 0 ≤ qfd u.2.2.2.2 a_2 3 ∧ qfd u.2.2.2.2 a_2 3 < (u.1 9)) (c42_10 : (qfd u.2.2.2.2 a_2 3 : Int32) = x) (b48_14 : ¬ (qfd u.2.2.2.2 a_2 1 ≤ c_sd u)) : ((u.1 10).toInt - (x4 + 1).toInt).toNat < ((u.1 10).toInt - x4.toInt).toNat := by
  first | omega | ((try simp only [g_m1, Int32.lt_iff_toInt_lt, Int32.le_iff_toInt_le, ← Int32.toInt_inj, Int32.reduceToInt] at *); omega) | ((try have ez0 : (x4 + 1 : Int32).toInt = (x4 : Int32).toInt + (1 : Int32).toInt := g_add (by (try simp only [g_m1, Int32.lt_iff_toInt_lt, Int32.le_iff_toInt_le, ← Int32.toInt_inj, Int32.reduceToInt] at *); omega) (by (try simp only [g_m1, Int32.lt_iff_toInt_lt, Int32.le_iff_toInt_le, ← Int32.toInt_inj, Int32.reduceToInt] at *); omega)); (try simp only [g_m1, Int32.lt_iff_toInt_lt, Int32.le_iff_toInt_le, ← Int32.toInt_inj, Int32.reduceToInt] at *); omega) | ((try simp only [g_m1, Int32.lt_iff_toInt_lt, Int32.le_iff_toInt_le, ← Int32.toInt_inj, Int32.toInt_add, Int32.toInt_sub, Int32.toInt_mul, Int32.toInt_neg, Int32.reduceToInt, g_bm, g_bm'] at *); omega) | (have qr1 := g_rng x; have qr2 := g_rng y; have qr3 := g_rng z; have qr4 := g_rng x4; (try simp only [g_m1, Int32.lt_iff_toInt_lt, Int32.le_iff_toInt_le, ← Int32.toInt_inj, Int32.toInt_add, Int32.toInt_sub, Int32.toInt_mul, Int32.toInt_neg, Int32.reduceToInt, g_bm, g_bm'] at *); omega) | (simp only [g_m1, Int32.lt_iff_toInt_lt, Int32.le_iff_toInt_le, ← Int32.toInt_inj, Int32.toInt_add, Int32.toInt_sub, Int32.toInt_mul, Int32.toInt_neg, Int32.reduceToInt, g_bm, g_bm'] at *; simp at *; omega) | (simp_all; done)
set_option maxRecDepth 100000 in
theorem g_X0_mayGo_v20 (u : qS) (x : Int32) (y : Int32) (z : Int32) (hx : 0 ≤ x ∧ x < u.1 9) (hy : 0 ≤ y ∧ y < u.1 8) (hz8 : 0 ≤ u.1 8 ∧ u.1 8 ≤ 20) (hz9 : 0 ≤ u.1 9 ∧ u.1 9 ≤ 8) (hz10 : 0 ≤ u.1 10 ∧ u.1 10 ≤ 120) (hz12 : 0 ≤ u.1 12 ∧ u.1 12 ≤ 16) : 0 ≤ x ∧ x < (u.1 9 : Int32) := by
  first | omega | ((try simp only [g_m1, Int32.lt_iff_toInt_lt, Int32.le_iff_toInt_le, ← Int32.toInt_inj, Int32.reduceToInt] at *); omega) | ((try simp only [g_m1, Int32.lt_iff_toInt_lt, Int32.le_iff_toInt_le, ← Int32.toInt_inj, Int32.reduceToInt] at *); omega) | ((try simp only [g_m1, Int32.lt_iff_toInt_lt, Int32.le_iff_toInt_le, ← Int32.toInt_inj, Int32.toInt_add, Int32.toInt_sub, Int32.toInt_mul, Int32.toInt_neg, Int32.reduceToInt, g_bm, g_bm'] at *); omega) | (have qr1 := g_rng x; have qr2 := g_rng y; have qr3 := g_rng z; (try simp only [g_m1, Int32.lt_iff_toInt_lt, Int32.le_iff_toInt_le, ← Int32.toInt_inj, Int32.toInt_add, Int32.toInt_sub, Int32.toInt_mul, Int32.toInt_neg, Int32.reduceToInt, g_bm, g_bm'] at *); omega) | (simp only [g_m1, Int32.lt_iff_toInt_lt, Int32.le_iff_toInt_le, ← Int32.toInt_inj, Int32.toInt_add, Int32.toInt_sub, Int32.toInt_mul, Int32.toInt_neg, Int32.reduceToInt, g_bm, g_bm'] at *; simp at *; omega) | (simp_all; done)
set_option maxRecDepth 100000 in
theorem g_X0_mayGo_v21 (u : qS) (x : Int32) (y : Int32) (z : Int32) (hx : 0 ≤ x ∧ x < u.1 9) (hy : 0 ≤ y ∧ y < u.1 8) (hz8 : 0 ≤ u.1 8 ∧ u.1 8 ≤ 20) (hz9 : 0 ≤ u.1 9 ∧ u.1 9 ≤ 8) (hz10 : 0 ≤ u.1 10 ∧ u.1 10 ≤ 120) (hz12 : 0 ≤ u.1 12 ∧ u.1 12 ≤ 16) : 0 ≤ y ∧ y < (u.1 8 : Int32) := by
  first | omega | ((try simp only [g_m1, Int32.lt_iff_toInt_lt, Int32.le_iff_toInt_le, ← Int32.toInt_inj, Int32.reduceToInt] at *); omega) | ((try simp only [g_m1, Int32.lt_iff_toInt_lt, Int32.le_iff_toInt_le, ← Int32.toInt_inj, Int32.reduceToInt] at *); omega) | ((try simp only [g_m1, Int32.lt_iff_toInt_lt, Int32.le_iff_toInt_le, ← Int32.toInt_inj, Int32.toInt_add, Int32.toInt_sub, Int32.toInt_mul, Int32.toInt_neg, Int32.reduceToInt, g_bm, g_bm'] at *); omega) | (have qr1 := g_rng x; have qr2 := g_rng y; have qr3 := g_rng z; (try simp only [g_m1, Int32.lt_iff_toInt_lt, Int32.le_iff_toInt_le, ← Int32.toInt_inj, Int32.toInt_add, Int32.toInt_sub, Int32.toInt_mul, Int32.toInt_neg, Int32.reduceToInt, g_bm, g_bm'] at *); omega) | (simp only [g_m1, Int32.lt_iff_toInt_lt, Int32.le_iff_toInt_le, ← Int32.toInt_inj, Int32.toInt_add, Int32.toInt_sub, Int32.toInt_mul, Int32.toInt_neg, Int32.reduceToInt, g_bm, g_bm'] at *; simp at *; omega) | (simp_all; done)
set_option maxRecDepth 100000 in
theorem g_X0_mayGo_v22 (u : qS) (x : Int32) (y : Int32) (z : Int32) (r_21 : Int32) (hx : 0 ≤ x ∧ x < u.1 9) (hy : 0 ≤ y ∧ y < u.1 8) (hz8 : 0 ≤ u.1 8 ∧ u.1 8 ≤ 20) (hz9 : 0 ≤ u.1 9 ∧ u.1 9 ≤ 8) (hz10 : 0 ≤ u.1 10 ∧ u.1 10 ≤ 120) (hz12 : 0 ≤ u.1 12 ∧ u.1 12 ≤ 16) (hw_20 : r_21 = c_wh u x y) (c10_22 : (r_21 : Int32) ≤ (u.1 17)) : 0 ≤ (0 : Int32) := by
  first | omega | ((try simp only [g_m1, Int32.lt_iff_toInt_lt, Int32.le_iff_toInt_le, ← Int32.toInt_inj, Int32.reduceToInt] at *); omega) | ((try simp only [g_m1, Int32.lt_iff_toInt_lt, Int32.le_iff_toInt_le, ← Int32.toInt_inj, Int32.reduceToInt] at *); omega) | ((try simp only [g_m1, Int32.lt_iff_toInt_lt, Int32.le_iff_toInt_le, ← Int32.toInt_inj, Int32.toInt_add, Int32.toInt_sub, Int32.toInt_mul, Int32.toInt_neg, Int32.reduceToInt, g_bm, g_bm'] at *); omega) | (have qr1 := g_rng x; have qr2 := g_rng y; have qr3 := g_rng z; have qr4 := g_rng r_21; (try simp only [g_m1, Int32.lt_iff_toInt_lt, Int32.le_iff_toInt_le, ← Int32.toInt_inj, Int32.toInt_add, Int32.toInt_sub, Int32.toInt_mul, Int32.toInt_neg, Int32.reduceToInt, g_bm, g_bm'] at *); omega) | (simp only [g_m1, Int32.lt_iff_toInt_lt, Int32.le_iff_toInt_le, ← Int32.toInt_inj, Int32.toInt_add, Int32.toInt_sub, Int32.toInt_mul, Int32.toInt_neg, Int32.reduceToInt, g_bm, g_bm'] at *; simp at *; omega) | (simp_all; done)
set_option maxRecDepth 100000 in
theorem g_X0_mayGo_v23 (u : qS) (x : Int32) (y : Int32) (z : Int32) (r_21 : Int32) (hx : 0 ≤ x ∧ x < u.1 9) (hy : 0 ≤ y ∧ y < u.1 8) (hz8 : 0 ≤ u.1 8 ∧ u.1 8 ≤ 20) (hz9 : 0 ≤ u.1 9 ∧ u.1 9 ≤ 8) (hz10 : 0 ≤ u.1 10 ∧ u.1 10 ≤ 120) (hz12 : 0 ≤ u.1 12 ∧ u.1 12 ≤ 16) (hw_20 : r_21 = c_wh u x y) (c10_22 : (r_21 : Int32) ≤ (u.1 17)) : (0 : Int32) ≤ u.1 10 := by
  first | omega | ((try simp only [g_m1, Int32.lt_iff_toInt_lt, Int32.le_iff_toInt_le, ← Int32.toInt_inj, Int32.reduceToInt] at *); omega) | ((try simp only [g_m1, Int32.lt_iff_toInt_lt, Int32.le_iff_toInt_le, ← Int32.toInt_inj, Int32.reduceToInt] at *); omega) | ((try simp only [g_m1, Int32.lt_iff_toInt_lt, Int32.le_iff_toInt_le, ← Int32.toInt_inj, Int32.toInt_add, Int32.toInt_sub, Int32.toInt_mul, Int32.toInt_neg, Int32.reduceToInt, g_bm, g_bm'] at *); omega) | (have qr1 := g_rng x; have qr2 := g_rng y; have qr3 := g_rng z; have qr4 := g_rng r_21; (try simp only [g_m1, Int32.lt_iff_toInt_lt, Int32.le_iff_toInt_le, ← Int32.toInt_inj, Int32.toInt_add, Int32.toInt_sub, Int32.toInt_mul, Int32.toInt_neg, Int32.reduceToInt, g_bm, g_bm'] at *); omega) | (simp only [g_m1, Int32.lt_iff_toInt_lt, Int32.le_iff_toInt_le, ← Int32.toInt_inj, Int32.toInt_add, Int32.toInt_sub, Int32.toInt_mul, Int32.toInt_neg, Int32.reduceToInt, g_bm, g_bm'] at *; simp at *; omega) | (simp_all; done)
set_option maxRecDepth 100000 in
theorem g_X0_mayGo_v24 (u : qS) (x : Int32) (y : Int32) (r_21 : Int32) (hx : 0 ≤ x ∧ x < u.1 9) (hy : 0 ≤ y ∧ y < u.1 8) (hz8 : 0 ≤ u.1 8 ∧ u.1 8 ≤ 20) (hz9 : 0 ≤ u.1 9 ∧ u.1 9 ≤ 8) (hz10 : 0 ≤ u.1 10 ∧ u.1 10 ≤ 120) (hz12 : 0 ≤ u.1 12 ∧ u.1 12 ≤ 16) (hw_20 : r_21 = c_wh u x y) (c10_22 : (r_21 : Int32) ≤ (u.1 17)) : c_wh u x y ≤ u.1 17 := by
  have q := (by assumption : _ = c_wh u x y)
  rw [← q]; assumption
set_option maxRecDepth 100000 in
theorem g_X0_mayGo_v25 (u : qS) (x : Int32) (y : Int32) (z : Int32) (r_21 : Int32) (hx : 0 ≤ x ∧ x < u.1 9) (hy : 0 ≤ y ∧ y < u.1 8) (hz8 : 0 ≤ u.1 8 ∧ u.1 8 ≤ 20) (hz9 : 0 ≤ u.1 9 ∧ u.1 9 ≤ 8) (hz10 : 0 ≤ u.1 10 ∧ u.1 10 ≤ 120) (hz12 : 0 ≤ u.1 12 ∧ u.1 12 ≤ 16) (hw_20 : r_21 = c_wh u x y) (c10_22 : (r_21 : Int32) ≤ (u.1 17)) : c_al u (0 : Int32).toNatClampNeg x y z := by
  exact c_al.nil
set_option maxRecDepth 100000 in
theorem g_X0_mayGo_v26 (u : qS) (x : Int32) (y : Int32) (z : Int32) (r_21 : Int32) (hx : 0 ≤ x ∧ x < u.1 9) (hy : 0 ≤ y ∧ y < u.1 8) (hz8 : 0 ≤ u.1 8 ∧ u.1 8 ≤ 20) (hz9 : 0 ≤ u.1 9 ∧ u.1 9 ≤ 8) (hz10 : 0 ≤ u.1 10 ∧ u.1 10 ≤ 120) (hz12 : 0 ≤ u.1 12 ∧ u.1 12 ≤ 16) (hw_20 : r_21 = c_wh u x y) (c10_22 : ¬ (r_21 : Int32) ≤ (u.1 17)) : (0 = (1 : Int32) ∧ (c_mg u x y z)) ∨ (0 = (0 : Int32) ∧ ¬ (c_mg u x y z)) := by
  first
  | exact Or.inr ⟨rfl, fun q => (by have e := (by assumption : _ = c_wh u x y); have w := q.1; rw [← e] at w; exact absurd w (by assumption))⟩
  | (have h2 := (by assumption : u.2.2.2.1 2 (x4 : Int32).toNatClampNeg = some _)
     exact Or.inr ⟨rfl, fun q => q.2 x4.toNatClampNeg (by have c1 := g_clamp x4; have c2 := g_clamp (u.1 10); clear h_a h_w q; (try simp only [g_m1, Int32.lt_iff_toInt_lt, Int32.le_iff_toInt_le, ← Int32.toInt_inj, Int32.reduceToInt] at *); omega) ((c_bd_at h2).mpr ⟨by assumption, by assumption, by assumption⟩)⟩)
  | (have e : x4 = u.1 10 := Int32.toInt_inj.mp (by clear h_a h_w; (try simp only [g_m1, Int32.lt_iff_toInt_lt, Int32.le_iff_toInt_le, ← Int32.toInt_inj, Int32.reduceToInt] at *); omega)
     rw [e] at h_a; exact Or.inl ⟨rfl, h_w, h_a⟩)
set_option maxHeartbeats 1000000 in
set_option maxRecDepth 100000 in
theorem g_X0_mayGo (l : Launch) (E : qE) (A : Nat → Prop) (u : qS) (x : Int32) (y : Int32) (z : Int32) (hI : IC E u) (hx : 0 ≤ x ∧ x < u.1 9) (hy : 0 ≤ y ∧ y < u.1 8) : Met l yX0_mayGo (uws yX0_mayGo cX0_mayGo 6 (some .boolean)) (qR 4 0 0) (qPc E A 0 u [.ref (E.2.2 99), .int x, .int y, .int z]) (qQi E A 0 (fun r u1 => u1 = u ∧ ((r = 1 ∧ (c_mg u x y z)) ∨ (r = 0 ∧ ¬ (c_mg u x y z))))) 0 0 A := by
  refine q_met (own := RX0) (f := 4) [.ref (E.2.2 99), .int x, .int y, .int z] (by decide) (Nat.le_of_ble_eq_true rfl) rfl ?_
  intro p0 e0 s0 m0 bl0 me0 cd0 ls hF hr hlocks hU hS hA hl
  have hl : lv_has ls 6 [(0, .ref (E.2.2 99)), (1, .int x), (2, .int y), (3, .int z)] := hl
  have hz8 : 0 ≤ u.1 8 ∧ u.1 8 ≤ 20 := hI.1.s8
  have hz9 : 0 ≤ u.1 9 ∧ u.1 9 ≤ 8 := hI.1.s9
  have hz10 : 0 ≤ u.1 10 ∧ u.1 10 ≤ 120 := hI.1.s10
  have hz12 : 0 ≤ u.1 12 ∧ u.1 12 ≤ 16 := hI.1.s12
  have main : ∀ n : Nat, (∀ (x4 : Int32) (uc : qS) (H : Heap) (locs : List Loc) (ls : Array Slot) (huc : u = uc) (h_k : 0 ≤ x4) (h_v : x4 ≤ u.1 10) (h_w : c_wh u x y ≤ u.1 17) (h_a : c_al u x4.toNatClampNeg x y z), ((u.1 10).toInt - x4.toInt).toNat < n → qH E A 0 uc s0 H → va_S A s0.heap H locs → lv_has ls 6 [(0, .ref (E.2.2 99)), (1, .int x), (2, .int y), (3, .int z), (4, .int x4)] → W p0 l e0 (qR 4 0 0) s0 m0 ([.ref (E.2.2 99), .int x, .int y, .int z] : List Value).toArray bl0 me0 cd0 H locs 0 0 (MQ bl0 (qQi E A 0 (fun r u1 => u1 = u ∧ ((r = 1 ∧ (c_mg u x y z)) ∨ (r = 0 ∧ ¬ (c_mg u x y z))))) ([.ref (E.2.2 99), .int x, .int y, .int z] : List Value).toArray s0 0 0 A) (F0 m0 18 ls [])) := by
    intro n
    induction n with
    | zero => exact fun _ _ _ _ _ _ _ _ _ _ hmu => absurd hmu (Nat.not_lt_zero _)
    | succ n ih =>
      intro x4 uc H locs ls huc h_k h_v h_w h_a hmu hU hS hl
      subst huc
      refine lv_iload hF.1 hF.2.1 dX0_mayGo_18 (lv_at hl 4 rfl) ?_
      refine lv_aload_n hF.1 hF.2.1 dX0_mayGo_20 rfl (lv_at hl 0 rfl) ?_
      refine q_get (v := .int (u.1 10)) hF hU dX0_mayGo_21 1 0 10 10 99 rfl rfl rfl rfl inX0 (by decide) (by decide) w_171 rfl rfl ?_
      refine lv_icmp_ge (tgt := 73) hF.1 hF.2.1 dX0_mayGo_24 (by decide) (fun c24_1 => ?_) (fun c24_1 => ?_)
      · refine lv_iconst (v := 1) hF.1 hF.2.1 dX0_mayGo_73 (by decide) ?_
        exact q_iret hF hr (by decide) hlocks hU hS dX0_mayGo_74 ⟨rfl, (g_X0_mayGo_v0 u x y z x4 hx hy hz8 hz9 hz10 hz12 h_k h_v h_w h_a c24_1)⟩
      · refine lv_aload_n hF.1 hF.2.1 dX0_mayGo_27 rfl (lv_at hl 0 rfl) ?_
        refine q_get (v := .ref (E.2.2 2)) hF hU dX0_mayGo_28 1 0 2 2 99 rfl rfl rfl rfl inX0 (by decide) (by decide) w_148 rfl rfl ?_
        refine lv_iload hF.1 hF.2.1 dX0_mayGo_31 (lv_at hl 4 rfl) ?_
        obtain ⟨a_2, ha_2_3_e, ha_2_3⟩ := hI.r2 x4 (g_X0_mayGo_v1 u x y z x4 hx hy hz8 hz9 hz10 hz12 h_k h_v h_w h_a c24_1)
        refine q_aald (v := .ref a_2) hF hU dX0_mayGo_33 2 2 6 rfl rfl (by decide) rfl (g_X0_mayGo_v2 u x y z x4 hx hy hz8 hz9 hz10 hz12 h_k h_v h_w h_a c24_1) (by rw [ha_2_3_e]; rfl) ?_
        refine lv_astore (lv' := [(5, .ref a_2), (0, .ref (E.2.2 99)), (1, .int x), (2, .int y), (3, .int z), (4, .int x4)]) hF.1 hF.2.1 dX0_mayGo_34 hl (by decide) rfl (fun ls hl => ?_)
        refine lv_aload hF.1 hF.2.1 dX0_mayGo_36 (lv_at hl 0 rfl) ?_
        obtain ⟨k_4, fs_5, hd_7, hv_8, hv_8_2, hv_8_3, -⟩ := hI.vf ((ha_2_3).rf) 3 (by decide)
        refine q_getd (v := .int (qfd u.2.2.2.2 a_2 3)) hF hU dX0_mayGo_38 k_4 10 3 hd_7 rfl inX10 (by decide) w_598 rfl hv_8 ?_
        have hb_9 : 0 ≤ qfd u.2.2.2.2 a_2 3 ∧ qfd u.2.2.2.2 a_2 3 < (u.1 9) := hv_8_3 rfl
        refine lv_iload_n hF.1 hF.2.1 dX0_mayGo_41 rfl (lv_at hl 2 rfl) ?_
        refine lv_icmp_ne (tgt := 67) hF.1 hF.2.1 dX0_mayGo_42 (by decide) (fun c42_10 => ?_) (fun c42_10 => ?_)
        · refine lv_iinc (v := x4 + 1) (lv' := [(4, .int (x4 + 1)), (5, .ref a_2), (0, .ref (E.2.2 99)), (1, .int x), (2, .int y), (3, .int z)]) hF.1 hF.2.1 dX0_mayGo_67 hl (k := 5) rfl rfl (by decide) rfl (fun ls hl => ?_)
          refine lv_goto (tgt := 18) hF.1 hF.2.1 dX0_mayGo_70 (by decide) ?_
          exact ih (x4 + 1) u _ _ _ rfl  (g_X0_mayGo_v3 u x y z x4 a_2 hx hy hz8 hz9 hz10 hz12 h_k h_v h_w h_a c24_1 ha_2_3_e hb_9 c42_10) (g_X0_mayGo_v4 u x y z x4 a_2 hx hy hz8 hz9 hz10 hz12 h_k h_v h_w h_a c24_1 ha_2_3_e hb_9 c42_10) (g_X0_mayGo_v5 u x y z x4 a_2 hx hy hz8 hz9 hz10 hz12 h_k h_v h_w h_a c24_1 ha_2_3_e hb_9 c42_10) (g_X0_mayGo_v6 u x y z x4 a_2 hx hy hz8 hz9 hz10 hz12 h_k h_v h_w h_a c24_1 ha_2_3_e hb_9 c42_10) (Nat.lt_of_lt_of_le (g_X0_mayGo_v7 u x y z x4 a_2 hx hy hz8 hz9 hz10 hz12 h_k h_v h_w h_a c24_1 ha_2_3_e hb_9 c42_10) (Nat.lt_succ_iff.mp hmu)) hU hS (lv_sub hl [2, 3, 4, 5, 0] rfl)
        · refine lv_aload_n hF.1 hF.2.1 dX0_mayGo_45 rfl (lv_at hl 1 rfl) ?_
          refine lv_aload hF.1 hF.2.1 dX0_mayGo_46 (lv_at hl 0 rfl) ?_
          have hM9 := g_X0_isSeen l E A u a_2 hI ((ha_2_3).rf)
          have hR9 := q_runV (l := l) (e := e0) (below := bl0) (meth := me0) (R := qR 4 0 0) (cells := 0) (slots := 0) (st0 := [.ref a_2, .ref (E.2.2 99)]) (rest := []) hF hU hS hA 1 1 0 99 rfl rfl rfl hM9 w_906 w_861 w_862 w_100 w_863 (by decide +kernel) ⟨Nat.le_of_ble_eq_true rfl, Nat.le_of_ble_eq_true rfl⟩ dX0_mayGo_48 rfl hl.1 rfl (Nat.le_of_ble_eq_true rfl) ⟨Nat.le_of_ble_eq_true rfl, Nat.le_of_ble_eq_true rfl⟩
          refine q_calli hR9 hU.2.2.2 hS (fun r_13 u_11 H locs hw_12 hU hS => ?_)
          obtain ⟨hw_12_e, hw_12⟩ := hw_12
          rw [hw_12_e] at hU
          have hw_12 : (r_13 = 1 ∧ (qfd u.2.2.2.2 a_2 1 ≤ c_sd u)) ∨ (r_13 = 0 ∧ (¬ (qfd u.2.2.2.2 a_2 1 ≤ c_sd u))) := hw_12
          rcases hw_12 with ⟨rfl, b48_14⟩ | ⟨rfl, b48_14⟩
          · refine lv_if_eq (tgt := 67) hF.1 hF.2.1 dX0_mayGo_51 (by decide) (fun h9 => absurd h9 (by decide)) (fun _ => ?_)
            refine lv_aload_n hF.1 hF.2.1 dX0_mayGo_54 rfl (lv_at hl 1 rfl) ?_
            refine lv_aload hF.1 hF.2.1 dX0_mayGo_55 (lv_at hl 0 rfl) ?_
            refine lv_iload_n hF.1 hF.2.1 dX0_mayGo_57 rfl (lv_at hl 3 rfl) ?_
            refine lv_iload_n hF.1 hF.2.1 dX0_mayGo_58 rfl (lv_at hl 4 rfl) ?_
            have hM9 := g_X0_isTooNear l E A u a_2 y z hI ((ha_2_3).rf) (g_X0_mayGo_v8 u x y z x4 a_2 hx hy hz8 hz9 hz10 hz12 h_k h_v h_w h_a c24_1 ha_2_3_e hb_9 c42_10 b48_14)
            have hR9 := q_runV (l := l) (e := e0) (below := bl0) (meth := me0) (R := qR 4 0 0) (cells := 0) (slots := 0) (st0 := [.int z, .int y, .ref a_2, .ref (E.2.2 99)]) (rest := []) hF hU hS hA 3 1 0 99 rfl rfl rfl hM9 w_1100 w_1102 w_38 w_100 w_1103 (by decide +kernel) ⟨Nat.le_of_ble_eq_true rfl, Nat.le_of_ble_eq_true rfl⟩ dX0_mayGo_59 rfl hl.1 rfl (Nat.le_of_ble_eq_true rfl) ⟨Nat.le_of_ble_eq_true rfl, Nat.le_of_ble_eq_true rfl⟩
            refine q_calli hR9 hU.2.2.2 hS (fun r_17 u_15 H locs hw_16 hU hS => ?_)
            obtain ⟨hw_16_e, hw_16⟩ := hw_16
            rw [hw_16_e] at hU
            have hw_16 : (r_17 = 1 ∧ (c_tn u a_2 y z)) ∨ (r_17 = 0 ∧ (¬ (c_tn u a_2 y z))) := hw_16
            rcases hw_16 with ⟨rfl, b59_18⟩ | ⟨rfl, b59_18⟩
            · refine lv_if_eq (tgt := 67) hF.1 hF.2.1 dX0_mayGo_62 (by decide) (fun h9 => absurd h9 (by decide)) (fun _ => ?_)
              refine lv_iconst (v := 0) hF.1 hF.2.1 dX0_mayGo_65 (by decide) ?_
              exact q_iret hF hr (by decide) hlocks hU hS dX0_mayGo_66 ⟨rfl, (g_X0_mayGo_v9 u x y z x4 a_2 hx hy hz8 hz9 hz10 hz12 h_k h_v h_w h_a c24_1 ha_2_3_e hb_9 c42_10 b48_14 b59_18)⟩
            · refine lv_if_eq (tgt := 67) hF.1 hF.2.1 dX0_mayGo_62 (by decide) (fun _ => ?_) (fun h9 => absurd (by decide) h9)
              refine lv_iinc (v := x4 + 1) (lv' := [(4, .int (x4 + 1)), (5, .ref a_2), (0, .ref (E.2.2 99)), (1, .int x), (2, .int y), (3, .int z)]) hF.1 hF.2.1 dX0_mayGo_67 hl (k := 5) rfl rfl (by decide) rfl (fun ls hl => ?_)
              refine lv_goto (tgt := 18) hF.1 hF.2.1 dX0_mayGo_70 (by decide) ?_
              exact ih (x4 + 1) u _ _ _ rfl  (g_X0_mayGo_v10 u x y z x4 a_2 hx hy hz8 hz9 hz10 hz12 h_k h_v h_w h_a c24_1 ha_2_3_e hb_9 c42_10 b48_14 b59_18) (g_X0_mayGo_v11 u x y z x4 a_2 hx hy hz8 hz9 hz10 hz12 h_k h_v h_w h_a c24_1 ha_2_3_e hb_9 c42_10 b48_14 b59_18) (g_X0_mayGo_v12 u x y z x4 a_2 hx hy hz8 hz9 hz10 hz12 h_k h_v h_w h_a c24_1 ha_2_3_e hb_9 c42_10 b48_14 b59_18) (g_X0_mayGo_v13 u x y z x4 a_2 hx hy hz8 hz9 hz10 hz12 h_k h_v h_w h_a c24_1 ha_2_3_e hb_9 c42_10 b48_14 b59_18) (Nat.lt_of_lt_of_le (g_X0_mayGo_v14 u x y z x4 a_2 hx hy hz8 hz9 hz10 hz12 h_k h_v h_w h_a c24_1 ha_2_3_e hb_9 c42_10 b48_14 b59_18) (Nat.lt_succ_iff.mp hmu)) hU hS (lv_sub hl [2, 3, 4, 5, 0] rfl)
          · refine lv_if_eq (tgt := 67) hF.1 hF.2.1 dX0_mayGo_51 (by decide) (fun _ => ?_) (fun h9 => absurd (by decide) h9)
            refine lv_iinc (v := x4 + 1) (lv' := [(4, .int (x4 + 1)), (5, .ref a_2), (0, .ref (E.2.2 99)), (1, .int x), (2, .int y), (3, .int z)]) hF.1 hF.2.1 dX0_mayGo_67 hl (k := 5) rfl rfl (by decide) rfl (fun ls hl => ?_)
            refine lv_goto (tgt := 18) hF.1 hF.2.1 dX0_mayGo_70 (by decide) ?_
            exact ih (x4 + 1) u _ _ _ rfl  (g_X0_mayGo_v15 u x y z x4 a_2 hx hy hz8 hz9 hz10 hz12 h_k h_v h_w h_a c24_1 ha_2_3_e hb_9 c42_10 b48_14) (g_X0_mayGo_v16 u x y z x4 a_2 hx hy hz8 hz9 hz10 hz12 h_k h_v h_w h_a c24_1 ha_2_3_e hb_9 c42_10 b48_14) (g_X0_mayGo_v17 u x y z x4 a_2 hx hy hz8 hz9 hz10 hz12 h_k h_v h_w h_a c24_1 ha_2_3_e hb_9 c42_10 b48_14) (g_X0_mayGo_v18 u x y z x4 a_2 hx hy hz8 hz9 hz10 hz12 h_k h_v h_w h_a c24_1 ha_2_3_e hb_9 c42_10 b48_14) (Nat.lt_of_lt_of_le (g_X0_mayGo_v19 u x y z x4 a_2 hx hy hz8 hz9 hz10 hz12 h_k h_v h_w h_a c24_1 ha_2_3_e hb_9 c42_10 b48_14) (Nat.lt_succ_iff.mp hmu)) hU hS (lv_sub hl [2, 3, 4, 5, 0] rfl)
  refine lv_aload_n hF.1 hF.2.1 dX0_mayGo_0 rfl (lv_at hl 0 rfl) ?_
  refine lv_iload_n hF.1 hF.2.1 dX0_mayGo_1 rfl (lv_at hl 1 rfl) ?_
  refine lv_iload_n hF.1 hF.2.1 dX0_mayGo_2 rfl (lv_at hl 2 rfl) ?_
  have hM9 := g_X0_wayFromHome l E A u x y hI (g_X0_mayGo_v20 u x y z hx hy hz8 hz9 hz10 hz12) (g_X0_mayGo_v21 u x y z hx hy hz8 hz9 hz10 hz12)
  have hR9 := q_runV (l := l) (e := e0) (below := bl0) (meth := me0) (R := qR 4 0 0) (cells := 0) (slots := 0) (st0 := [.int y, .int x, .ref (E.2.2 99)]) (rest := []) hF hU hS hA 2 1 0 99 rfl rfl rfl hM9 w_1095 w_1096 w_1097 w_100 w_1098 (by decide +kernel) ⟨Nat.le_of_ble_eq_true rfl, Nat.le_of_ble_eq_true rfl⟩ dX0_mayGo_3 rfl hl.1 rfl (Nat.le_of_ble_eq_true rfl) ⟨Nat.le_of_ble_eq_true rfl, Nat.le_of_ble_eq_true rfl⟩
  refine q_calli hR9 hU.2.2.2 hS (fun r_21 u_19 H locs hw_20 hU hS => ?_)
  obtain ⟨hw_20_e, hw_20⟩ := hw_20
  rw [hw_20_e] at hU
  have hw_20 : r_21 = c_wh u x y := hw_20
  refine lv_aload_n hF.1 hF.2.1 dX0_mayGo_6 rfl (lv_at hl 0 rfl) ?_
  refine q_get (v := .int (u.1 17)) hF hU dX0_mayGo_7 1 0 17 17 99 rfl rfl rfl rfl inX0 (by decide) (by decide) w_186 rfl rfl ?_
  refine lv_icmp_le (tgt := 15) hF.1 hF.2.1 dX0_mayGo_10 (by decide) (fun c10_22 => ?_) (fun c10_22 => ?_)
  · refine lv_iconst (v := 0) hF.1 hF.2.1 dX0_mayGo_15 (by decide) ?_
    refine lv_istore (lv' := [(4, .int 0), (0, .ref (E.2.2 99)), (1, .int x), (2, .int y), (3, .int z)]) hF.1 hF.2.1 dX0_mayGo_16 hl (by decide) rfl (fun ls hl => ?_)
    exact (main _) (0 : Int32) u _ _ _ rfl  (g_X0_mayGo_v22 u x y z r_21 hx hy hz8 hz9 hz10 hz12 hw_20 c10_22) (g_X0_mayGo_v23 u x y z r_21 hx hy hz8 hz9 hz10 hz12 hw_20 c10_22) (g_X0_mayGo_v24 u x y r_21 hx hy hz8 hz9 hz10 hz12 hw_20 c10_22) (g_X0_mayGo_v25 u x y z r_21 hx hy hz8 hz9 hz10 hz12 hw_20 c10_22) (Nat.lt_succ_self _) hU hS (lv_sub hl [1, 2, 3, 4, 0] rfl)
  · refine lv_iconst (v := 0) hF.1 hF.2.1 dX0_mayGo_13 (by decide) ?_
    exact q_iret hF hr (by decide) hlocks hU hS dX0_mayGo_14 ⟨rfl, (g_X0_mayGo_v26 u x y z r_21 hx hy hz8 hz9 hz10 hz12 hw_20 c10_22)⟩
set_option maxRecDepth 100000 in
theorem g_X0_isLater_v0 (u : qS) (v : Nat) (w : Nat) (hz8 : 0 ≤ u.1 8 ∧ u.1 8 ≤ 20) (hz9 : 0 ≤ u.1 9 ∧ u.1 9 ≤ 8) (hz10 : 0 ≤ u.1 10 ∧ u.1 10 ≤ 120) (hz12 : 0 ≤ u.1 12 ∧ u.1 12 ≤ 16) (c8_11 : (qfd u.2.2.2.2 v 4 : Int32) = (qfd u.2.2.2.2 w 4)) (c36_22 : (qfd u.2.2.2.2 v 5 : Int32) ≤ (qfd u.2.2.2.2 w 5)) : (0 : Int32) = 1 ∨ (0 : Int32) = 0 := by
  first | omega | ((try simp only [g_m1, Int32.lt_iff_toInt_lt, Int32.le_iff_toInt_le, ← Int32.toInt_inj, Int32.reduceToInt] at *); omega) | ((try simp only [g_m1, Int32.lt_iff_toInt_lt, Int32.le_iff_toInt_le, ← Int32.toInt_inj, Int32.reduceToInt] at *); omega) | ((try simp only [g_m1, Int32.lt_iff_toInt_lt, Int32.le_iff_toInt_le, ← Int32.toInt_inj, Int32.toInt_add, Int32.toInt_sub, Int32.toInt_mul, Int32.toInt_neg, Int32.reduceToInt, g_bm, g_bm'] at *); omega) | ((try simp only [g_m1, Int32.lt_iff_toInt_lt, Int32.le_iff_toInt_le, ← Int32.toInt_inj, Int32.toInt_add, Int32.toInt_sub, Int32.toInt_mul, Int32.toInt_neg, Int32.reduceToInt, g_bm, g_bm'] at *); omega) | (simp only [g_m1, Int32.lt_iff_toInt_lt, Int32.le_iff_toInt_le, ← Int32.toInt_inj, Int32.toInt_add, Int32.toInt_sub, Int32.toInt_mul, Int32.toInt_neg, Int32.reduceToInt, g_bm, g_bm'] at *; simp at *; omega) | (simp_all; done)
set_option maxRecDepth 100000 in
theorem g_X0_isLater_v1 (u : qS) (v : Nat) (w : Nat) (hz8 : 0 ≤ u.1 8 ∧ u.1 8 ≤ 20) (hz9 : 0 ≤ u.1 9 ∧ u.1 9 ≤ 8) (hz10 : 0 ≤ u.1 10 ∧ u.1 10 ≤ 120) (hz12 : 0 ≤ u.1 12 ∧ u.1 12 ≤ 16) (c8_11 : (qfd u.2.2.2.2 v 4 : Int32) = (qfd u.2.2.2.2 w 4)) (c36_22 : ¬ (qfd u.2.2.2.2 v 5 : Int32) ≤ (qfd u.2.2.2.2 w 5)) : (1 : Int32) = 1 ∨ (1 : Int32) = 0 := by
  first | omega | ((try simp only [g_m1, Int32.lt_iff_toInt_lt, Int32.le_iff_toInt_le, ← Int32.toInt_inj, Int32.reduceToInt] at *); omega) | ((try simp only [g_m1, Int32.lt_iff_toInt_lt, Int32.le_iff_toInt_le, ← Int32.toInt_inj, Int32.reduceToInt] at *); omega) | ((try simp only [g_m1, Int32.lt_iff_toInt_lt, Int32.le_iff_toInt_le, ← Int32.toInt_inj, Int32.toInt_add, Int32.toInt_sub, Int32.toInt_mul, Int32.toInt_neg, Int32.reduceToInt, g_bm, g_bm'] at *); omega) | ((try simp only [g_m1, Int32.lt_iff_toInt_lt, Int32.le_iff_toInt_le, ← Int32.toInt_inj, Int32.toInt_add, Int32.toInt_sub, Int32.toInt_mul, Int32.toInt_neg, Int32.reduceToInt, g_bm, g_bm'] at *); omega) | (simp only [g_m1, Int32.lt_iff_toInt_lt, Int32.le_iff_toInt_le, ← Int32.toInt_inj, Int32.toInt_add, Int32.toInt_sub, Int32.toInt_mul, Int32.toInt_neg, Int32.reduceToInt, g_bm, g_bm'] at *; simp at *; omega) | (simp_all; done)
set_option maxRecDepth 100000 in
theorem g_X0_isLater_v2 (u : qS) (v : Nat) (w : Nat) (hz8 : 0 ≤ u.1 8 ∧ u.1 8 ≤ 20) (hz9 : 0 ≤ u.1 9 ∧ u.1 9 ≤ 8) (hz10 : 0 ≤ u.1 10 ∧ u.1 10 ≤ 120) (hz12 : 0 ≤ u.1 12 ∧ u.1 12 ≤ 16) (c8_11 : ¬ (qfd u.2.2.2.2 v 4 : Int32) = (qfd u.2.2.2.2 w 4)) (c19_33 : (qfd u.2.2.2.2 v 4 : Int32) ≤ (qfd u.2.2.2.2 w 4)) : (0 : Int32) = 1 ∨ (0 : Int32) = 0 := by
  first | omega | ((try simp only [g_m1, Int32.lt_iff_toInt_lt, Int32.le_iff_toInt_le, ← Int32.toInt_inj, Int32.reduceToInt] at *); omega) | ((try simp only [g_m1, Int32.lt_iff_toInt_lt, Int32.le_iff_toInt_le, ← Int32.toInt_inj, Int32.reduceToInt] at *); omega) | ((try simp only [g_m1, Int32.lt_iff_toInt_lt, Int32.le_iff_toInt_le, ← Int32.toInt_inj, Int32.toInt_add, Int32.toInt_sub, Int32.toInt_mul, Int32.toInt_neg, Int32.reduceToInt, g_bm, g_bm'] at *); omega) | ((try simp only [g_m1, Int32.lt_iff_toInt_lt, Int32.le_iff_toInt_le, ← Int32.toInt_inj, Int32.toInt_add, Int32.toInt_sub, Int32.toInt_mul, Int32.toInt_neg, Int32.reduceToInt, g_bm, g_bm'] at *); omega) | (simp only [g_m1, Int32.lt_iff_toInt_lt, Int32.le_iff_toInt_le, ← Int32.toInt_inj, Int32.toInt_add, Int32.toInt_sub, Int32.toInt_mul, Int32.toInt_neg, Int32.reduceToInt, g_bm, g_bm'] at *; simp at *; omega) | (simp_all; done)
set_option maxRecDepth 100000 in
theorem g_X0_isLater_v3 (u : qS) (v : Nat) (w : Nat) (hz8 : 0 ≤ u.1 8 ∧ u.1 8 ≤ 20) (hz9 : 0 ≤ u.1 9 ∧ u.1 9 ≤ 8) (hz10 : 0 ≤ u.1 10 ∧ u.1 10 ≤ 120) (hz12 : 0 ≤ u.1 12 ∧ u.1 12 ≤ 16) (c8_11 : ¬ (qfd u.2.2.2.2 v 4 : Int32) = (qfd u.2.2.2.2 w 4)) (c19_33 : ¬ (qfd u.2.2.2.2 v 4 : Int32) ≤ (qfd u.2.2.2.2 w 4)) : (1 : Int32) = 1 ∨ (1 : Int32) = 0 := by
  first | omega | ((try simp only [g_m1, Int32.lt_iff_toInt_lt, Int32.le_iff_toInt_le, ← Int32.toInt_inj, Int32.reduceToInt] at *); omega) | ((try simp only [g_m1, Int32.lt_iff_toInt_lt, Int32.le_iff_toInt_le, ← Int32.toInt_inj, Int32.reduceToInt] at *); omega) | ((try simp only [g_m1, Int32.lt_iff_toInt_lt, Int32.le_iff_toInt_le, ← Int32.toInt_inj, Int32.toInt_add, Int32.toInt_sub, Int32.toInt_mul, Int32.toInt_neg, Int32.reduceToInt, g_bm, g_bm'] at *); omega) | ((try simp only [g_m1, Int32.lt_iff_toInt_lt, Int32.le_iff_toInt_le, ← Int32.toInt_inj, Int32.toInt_add, Int32.toInt_sub, Int32.toInt_mul, Int32.toInt_neg, Int32.reduceToInt, g_bm, g_bm'] at *); omega) | (simp only [g_m1, Int32.lt_iff_toInt_lt, Int32.le_iff_toInt_le, ← Int32.toInt_inj, Int32.toInt_add, Int32.toInt_sub, Int32.toInt_mul, Int32.toInt_neg, Int32.reduceToInt, g_bm, g_bm'] at *; simp at *; omega) | (simp_all; done)
set_option maxHeartbeats 1000000 in
set_option maxRecDepth 100000 in
theorem g_X0_isLater (l : Launch) (E : qE) (A : Nat → Prop) (u : qS) (v : Nat) (w : Nat) (hI : IC E u) (hv : qRf u v 10) (hw : qRf u w 10) : Met l yX0_isLater (uws yX0_isLater cX0_isLater 2 (some .boolean)) (qR 0 0 0) (qPc E A 0 u [.ref v, .ref w]) (qQi E A 0 (fun r u1 => u1 = u ∧ (r = 1 ∨ r = 0))) 0 0 A := by
  refine q_met (own := RX0) (f := 0) [.ref v, .ref w] (by decide) (Nat.le_of_ble_eq_true rfl) rfl ?_
  intro p0 e0 s0 m0 bl0 me0 cd0 ls hF hr hlocks hU hS hA hl
  have hl : lv_has ls 2 [(0, .ref v), (1, .ref w)] := hl
  have hz8 : 0 ≤ u.1 8 ∧ u.1 8 ≤ 20 := hI.1.s8
  have hz9 : 0 ≤ u.1 9 ∧ u.1 9 ≤ 8 := hI.1.s9
  have hz10 : 0 ≤ u.1 10 ∧ u.1 10 ≤ 120 := hI.1.s10
  have hz12 : 0 ≤ u.1 12 ∧ u.1 12 ≤ 16 := hI.1.s12
  refine lv_aload_n hF.1 hF.2.1 dX0_isLater_0 rfl (lv_at hl 0 rfl) ?_
  obtain ⟨k_1, fs_2, hd_4, hv_5, hv_5_2, hv_5_3, -⟩ := hI.vf hv 4 (by decide)
  refine q_getd (v := .int (qfd u.2.2.2.2 v 4)) hF hU dX0_isLater_1 k_1 10 4 hd_4 rfl inX10 (by decide) w_603 rfl hv_5 ?_
  refine lv_aload_n hF.1 hF.2.1 dX0_isLater_4 rfl (lv_at hl 1 rfl) ?_
  obtain ⟨k_6, fs_7, hd_9, hv_10, hv_10_2, hv_10_3, -⟩ := hI.vf hw 4 (by decide)
  refine q_getd (v := .int (qfd u.2.2.2.2 w 4)) hF hU dX0_isLater_5 k_6 10 4 hd_9 rfl inX10 (by decide) w_603 rfl hv_10 ?_
  refine lv_icmp_eq (tgt := 28) hF.1 hF.2.1 dX0_isLater_8 (by decide) (fun c8_11 => ?_) (fun c8_11 => ?_)
  · refine lv_aload_n hF.1 hF.2.1 dX0_isLater_28 rfl (lv_at hl 0 rfl) ?_
    obtain ⟨k_12, fs_13, hd_15, hv_16, hv_16_2, hv_16_3, -⟩ := hI.vf hv 5 (by decide)
    refine q_getd (v := .int (qfd u.2.2.2.2 v 5)) hF hU dX0_isLater_29 k_12 10 5 hd_15 rfl inX10 (by decide) w_608 rfl hv_16 ?_
    refine lv_aload_n hF.1 hF.2.1 dX0_isLater_32 rfl (lv_at hl 1 rfl) ?_
    obtain ⟨k_17, fs_18, hd_20, hv_21, hv_21_2, hv_21_3, -⟩ := hI.vf hw 5 (by decide)
    refine q_getd (v := .int (qfd u.2.2.2.2 w 5)) hF hU dX0_isLater_33 k_17 10 5 hd_20 rfl inX10 (by decide) w_608 rfl hv_21 ?_
    refine lv_icmp_le (tgt := 43) hF.1 hF.2.1 dX0_isLater_36 (by decide) (fun c36_22 => ?_) (fun c36_22 => ?_)
    · refine lv_iconst (v := 0) hF.1 hF.2.1 dX0_isLater_43 (by decide) ?_
      exact q_iret hF hr (by decide) hlocks hU hS dX0_isLater_44 ⟨rfl, (g_X0_isLater_v0 u v w hz8 hz9 hz10 hz12 c8_11 c36_22)⟩
    · refine lv_iconst (v := 1) hF.1 hF.2.1 dX0_isLater_39 (by decide) ?_
      refine lv_goto (tgt := 44) hF.1 hF.2.1 dX0_isLater_40 (by decide) ?_
      exact q_iret hF hr (by decide) hlocks hU hS dX0_isLater_44 ⟨rfl, (g_X0_isLater_v1 u v w hz8 hz9 hz10 hz12 c8_11 c36_22)⟩
  · refine lv_aload_n hF.1 hF.2.1 dX0_isLater_11 rfl (lv_at hl 0 rfl) ?_
    obtain ⟨k_23, fs_24, hd_26, hv_27, hv_27_2, hv_27_3, -⟩ := hI.vf hv 4 (by decide)
    refine q_getd (v := .int (qfd u.2.2.2.2 v 4)) hF hU dX0_isLater_12 k_23 10 4 hd_26 rfl inX10 (by decide) w_603 rfl hv_27 ?_
    refine lv_aload_n hF.1 hF.2.1 dX0_isLater_15 rfl (lv_at hl 1 rfl) ?_
    obtain ⟨k_28, fs_29, hd_31, hv_32, hv_32_2, hv_32_3, -⟩ := hI.vf hw 4 (by decide)
    refine q_getd (v := .int (qfd u.2.2.2.2 w 4)) hF hU dX0_isLater_16 k_28 10 4 hd_31 rfl inX10 (by decide) w_603 rfl hv_32 ?_
    refine lv_icmp_le (tgt := 26) hF.1 hF.2.1 dX0_isLater_19 (by decide) (fun c19_33 => ?_) (fun c19_33 => ?_)
    · refine lv_iconst (v := 0) hF.1 hF.2.1 dX0_isLater_26 (by decide) ?_
      exact q_iret hF hr (by decide) hlocks hU hS dX0_isLater_27 ⟨rfl, (g_X0_isLater_v2 u v w hz8 hz9 hz10 hz12 c8_11 c19_33)⟩
    · refine lv_iconst (v := 1) hF.1 hF.2.1 dX0_isLater_22 (by decide) ?_
      refine lv_goto (tgt := 27) hF.1 hF.2.1 dX0_isLater_23 (by decide) ?_
      exact q_iret hF hr (by decide) hlocks hU hS dX0_isLater_27 ⟨rfl, (g_X0_isLater_v3 u v w hz8 hz9 hz10 hz12 c8_11 c19_33)⟩
