set_option maxRecDepth 100000 in
theorem g_X12_within_v0 (v : Int32) (lo : Int32) (hi : Int32) (c2_1 : (v : Int32) < lo) : (0 = (1 : Int32) ∧ (lo ≤ v ∧ v ≤ hi)) ∨ (0 = (0 : Int32) ∧ ¬ (lo ≤ v ∧ v ≤ hi)) := by
  first | omega | ((try simp only [Int32.lt_iff_toInt_lt, Int32.le_iff_toInt_le, ← Int32.toInt_inj, Int32.toInt_add, Int32.toInt_sub, Int32.toInt_mul, Int32.toInt_neg, Int32.reduceToInt, g_bm, g_bm'] at *); omega) | (simp only [Int32.lt_iff_toInt_lt, Int32.le_iff_toInt_le, ← Int32.toInt_inj, Int32.toInt_add, Int32.toInt_sub, Int32.toInt_mul, Int32.toInt_neg, Int32.reduceToInt, g_bm, g_bm'] at *; simp at *; omega) | (simp_all; done)
set_option maxRecDepth 100000 in
theorem g_X12_within_v1 (v : Int32) (lo : Int32) (hi : Int32) (c2_1 : ¬ (v : Int32) < lo) (c7_2 : hi < (v : Int32)) : (0 = (1 : Int32) ∧ (lo ≤ v ∧ v ≤ hi)) ∨ (0 = (0 : Int32) ∧ ¬ (lo ≤ v ∧ v ≤ hi)) := by
  first | omega | ((try simp only [Int32.lt_iff_toInt_lt, Int32.le_iff_toInt_le, ← Int32.toInt_inj, Int32.toInt_add, Int32.toInt_sub, Int32.toInt_mul, Int32.toInt_neg, Int32.reduceToInt, g_bm, g_bm'] at *); omega) | (simp only [Int32.lt_iff_toInt_lt, Int32.le_iff_toInt_le, ← Int32.toInt_inj, Int32.toInt_add, Int32.toInt_sub, Int32.toInt_mul, Int32.toInt_neg, Int32.reduceToInt, g_bm, g_bm'] at *; simp at *; omega) | (simp_all; done)
set_option maxRecDepth 100000 in
theorem g_X12_within_v2 (v : Int32) (lo : Int32) (hi : Int32) (c2_1 : ¬ (v : Int32) < lo) (c7_2 : ¬ hi < (v : Int32)) : (1 = (1 : Int32) ∧ (lo ≤ v ∧ v ≤ hi)) ∨ (1 = (0 : Int32) ∧ ¬ (lo ≤ v ∧ v ≤ hi)) := by
  first | omega | ((try simp only [Int32.lt_iff_toInt_lt, Int32.le_iff_toInt_le, ← Int32.toInt_inj, Int32.toInt_add, Int32.toInt_sub, Int32.toInt_mul, Int32.toInt_neg, Int32.reduceToInt, g_bm, g_bm'] at *); omega) | (simp only [Int32.lt_iff_toInt_lt, Int32.le_iff_toInt_le, ← Int32.toInt_inj, Int32.toInt_add, Int32.toInt_sub, Int32.toInt_mul, Int32.toInt_neg, Int32.reduceToInt, g_bm, g_bm'] at *; simp at *; omega) | (simp_all; done)
set_option maxHeartbeats 1000000 in
set_option maxRecDepth 100000 in
theorem g_X12_within (l : Launch) (E : qE) (A : Nat → Prop) (u : qS) (v : Int32) (lo : Int32) (hi : Int32) : Met l yX12_within (uws yX12_within cX12_within 3 (some .boolean)) (qR 0 0 0) (qPc E A 1 u [.int v, .int lo, .int hi]) (qQi E A 1 (fun r u1 => u1 = u ∧ ((r = 1 ∧ (lo ≤ v ∧ v ≤ hi)) ∨ (r = 0 ∧ ¬ (lo ≤ v ∧ v ≤ hi))))) 0 0 A := by
  refine q_met (own := RX12) (f := 0) [.int v, .int lo, .int hi] (by decide) (Nat.le_of_ble_eq_true rfl) rfl ?_
  intro p0 e0 s0 m0 bl0 me0 cd0 ls hF hr hlocks hU hS hA hl
  have hl : lv_has ls 3 [(0, .int v), (1, .int lo), (2, .int hi)] := hl
  refine lv_iload_n hF.1 hF.2.1 dX12_within_0 rfl (lv_at hl 0 rfl) ?_
  refine lv_iload_n hF.1 hF.2.1 dX12_within_1 rfl (lv_at hl 1 rfl) ?_
  refine lv_icmp_lt (tgt := 14) hF.1 hF.2.1 dX12_within_2 (by decide) (fun c2_1 => ?_) (fun c2_1 => ?_)
  · refine lv_iconst (v := 0) hF.1 hF.2.1 dX12_within_14 (by decide) ?_
    exact q_iret hF hr (by decide) hlocks hU hS dX12_within_15 ⟨rfl, (g_X12_within_v0 v lo hi c2_1)⟩
  · refine lv_iload_n hF.1 hF.2.1 dX12_within_5 rfl (lv_at hl 0 rfl) ?_
    refine lv_iload_n hF.1 hF.2.1 dX12_within_6 rfl (lv_at hl 2 rfl) ?_
    refine lv_icmp_gt (tgt := 14) hF.1 hF.2.1 dX12_within_7 (by decide) (fun c7_2 => ?_) (fun c7_2 => ?_)
    · refine lv_iconst (v := 0) hF.1 hF.2.1 dX12_within_14 (by decide) ?_
      exact q_iret hF hr (by decide) hlocks hU hS dX12_within_15 ⟨rfl, (g_X12_within_v1 v lo hi c2_1 c7_2)⟩
    · refine lv_iconst (v := 1) hF.1 hF.2.1 dX12_within_10 (by decide) ?_
      refine lv_goto (tgt := 15) hF.1 hF.2.1 dX12_within_11 (by decide) ?_
      exact q_iret hF hr (by decide) hlocks hU hS dX12_within_15 ⟨rfl, (g_X12_within_v2 v lo hi c2_1 c7_2)⟩
set_option maxRecDepth 100000 in
theorem g_X12_isPlace_v0 (x : Int32) (y : Int32) (b4_4 : 0 ≤ x ∧ x ≤ 99) (b14_8 : 0 ≤ y ∧ y ≤ 99) : (1 = (1 : Int32) ∧ ((0 ≤ x ∧ x ≤ 99) ∧ (0 ≤ y ∧ y ≤ 99))) ∨ (1 = (0 : Int32) ∧ ¬ ((0 ≤ x ∧ x ≤ 99) ∧ (0 ≤ y ∧ y ≤ 99))) := by
  first | omega | ((try simp only [Int32.lt_iff_toInt_lt, Int32.le_iff_toInt_le, ← Int32.toInt_inj, Int32.toInt_add, Int32.toInt_sub, Int32.toInt_mul, Int32.toInt_neg, Int32.reduceToInt, g_bm, g_bm'] at *); omega) | (simp only [Int32.lt_iff_toInt_lt, Int32.le_iff_toInt_le, ← Int32.toInt_inj, Int32.toInt_add, Int32.toInt_sub, Int32.toInt_mul, Int32.toInt_neg, Int32.reduceToInt, g_bm, g_bm'] at *; simp at *; omega) | (simp_all; done)
set_option maxRecDepth 100000 in
theorem g_X12_isPlace_v1 (x : Int32) (y : Int32) (b4_4 : 0 ≤ x ∧ x ≤ 99) (b14_8 : ¬ (0 ≤ y ∧ y ≤ 99)) : (0 = (1 : Int32) ∧ ((0 ≤ x ∧ x ≤ 99) ∧ (0 ≤ y ∧ y ≤ 99))) ∨ (0 = (0 : Int32) ∧ ¬ ((0 ≤ x ∧ x ≤ 99) ∧ (0 ≤ y ∧ y ≤ 99))) := by
  first | omega | ((try simp only [Int32.lt_iff_toInt_lt, Int32.le_iff_toInt_le, ← Int32.toInt_inj, Int32.toInt_add, Int32.toInt_sub, Int32.toInt_mul, Int32.toInt_neg, Int32.reduceToInt, g_bm, g_bm'] at *); omega) | (simp only [Int32.lt_iff_toInt_lt, Int32.le_iff_toInt_le, ← Int32.toInt_inj, Int32.toInt_add, Int32.toInt_sub, Int32.toInt_mul, Int32.toInt_neg, Int32.reduceToInt, g_bm, g_bm'] at *; simp at *; omega) | (simp_all; done)
set_option maxRecDepth 100000 in
theorem g_X12_isPlace_v2 (x : Int32) (y : Int32) (b4_4 : ¬ (0 ≤ x ∧ x ≤ 99)) : (0 = (1 : Int32) ∧ ((0 ≤ x ∧ x ≤ 99) ∧ (0 ≤ y ∧ y ≤ 99))) ∨ (0 = (0 : Int32) ∧ ¬ ((0 ≤ x ∧ x ≤ 99) ∧ (0 ≤ y ∧ y ≤ 99))) := by
  first | omega | ((try simp only [Int32.lt_iff_toInt_lt, Int32.le_iff_toInt_le, ← Int32.toInt_inj, Int32.toInt_add, Int32.toInt_sub, Int32.toInt_mul, Int32.toInt_neg, Int32.reduceToInt, g_bm, g_bm'] at *); omega) | (simp only [Int32.lt_iff_toInt_lt, Int32.le_iff_toInt_le, ← Int32.toInt_inj, Int32.toInt_add, Int32.toInt_sub, Int32.toInt_mul, Int32.toInt_neg, Int32.reduceToInt, g_bm, g_bm'] at *; simp at *; omega) | (simp_all; done)
set_option maxHeartbeats 1000000 in
set_option maxRecDepth 100000 in
theorem g_X12_isPlace (l : Launch) (E : qE) (A : Nat → Prop) (u : qS) (x : Int32) (y : Int32) : Met l yX12_isPlace (uws yX12_isPlace cX12_isPlace 2 (some .boolean)) (qR 1 0 0) (qPc E A 1 u [.int x, .int y]) (qQi E A 1 (fun r u1 => u1 = u ∧ ((r = 1 ∧ ((0 ≤ x ∧ x ≤ 99) ∧ (0 ≤ y ∧ y ≤ 99))) ∨ (r = 0 ∧ ¬ ((0 ≤ x ∧ x ≤ 99) ∧ (0 ≤ y ∧ y ≤ 99)))))) 0 0 A := by
  refine q_met (own := RX12) (f := 1) [.int x, .int y] (by decide) (Nat.le_of_ble_eq_true rfl) rfl ?_
  intro p0 e0 s0 m0 bl0 me0 cd0 ls hF hr hlocks hU hS hA hl
  have hl : lv_has ls 2 [(0, .int x), (1, .int y)] := hl
  refine lv_iload_n hF.1 hF.2.1 dX12_isPlace_0 rfl (lv_at hl 0 rfl) ?_
  refine lv_iconst (v := 0) hF.1 hF.2.1 dX12_isPlace_1 (by decide) ?_
  refine lv_bipush (v := 99) hF.1 hF.2.1 dX12_isPlace_2 (by decide) ?_
  have hM9 := g_X12_within l E A u x 0 99
  have hR9 := q_runS (l := l) (e := e0) (below := bl0) (meth := me0) (R := qR 1 0 0) (cells := 0) (slots := 0) (st0 := [.int 99, .int 0, .int x]) (rest := []) hF hU hS hA 3 hM9 w_1683 w_1684 w_107 w_1685 (by decide +kernel) ⟨Nat.le_of_ble_eq_true rfl, Nat.le_of_ble_eq_true rfl⟩ dX12_isPlace_4 rfl hl.1 rfl (Nat.le_of_ble_eq_true rfl) ⟨Nat.le_of_ble_eq_true rfl, Nat.le_of_ble_eq_true rfl⟩
  refine q_calli hR9 hU.2.2.2 hS (fun r_3 u_1 H locs hw_2 hU hS => ?_)
  obtain ⟨hw_2_e, hw_2⟩ := hw_2
  rw [hw_2_e] at hU
  have hw_2 : (r_3 = 1 ∧ (0 ≤ x ∧ x ≤ 99)) ∨ (r_3 = 0 ∧ ¬ (0 ≤ x ∧ x ≤ 99)) := hw_2
  rcases hw_2 with ⟨rfl, b4_4⟩ | ⟨rfl, b4_4⟩
  · refine lv_if_eq (tgt := 24) hF.1 hF.2.1 dX12_isPlace_7 (by decide) (fun h9 => absurd h9 (by decide)) (fun _ => ?_)
    refine lv_iload_n hF.1 hF.2.1 dX12_isPlace_10 rfl (lv_at hl 1 rfl) ?_
    refine lv_iconst (v := 0) hF.1 hF.2.1 dX12_isPlace_11 (by decide) ?_
    refine lv_bipush (v := 99) hF.1 hF.2.1 dX12_isPlace_12 (by decide) ?_
    have hM9 := g_X12_within l E A u y 0 99
    have hR9 := q_runS (l := l) (e := e0) (below := bl0) (meth := me0) (R := qR 1 0 0) (cells := 0) (slots := 0) (st0 := [.int 99, .int 0, .int y]) (rest := []) hF hU hS hA 3 hM9 w_1683 w_1684 w_107 w_1685 (by decide +kernel) ⟨Nat.le_of_ble_eq_true rfl, Nat.le_of_ble_eq_true rfl⟩ dX12_isPlace_14 rfl hl.1 rfl (Nat.le_of_ble_eq_true rfl) ⟨Nat.le_of_ble_eq_true rfl, Nat.le_of_ble_eq_true rfl⟩
    refine q_calli hR9 hU.2.2.2 hS (fun r_7 u_5 H locs hw_6 hU hS => ?_)
    obtain ⟨hw_6_e, hw_6⟩ := hw_6
    rw [hw_6_e] at hU
    have hw_6 : (r_7 = 1 ∧ (0 ≤ y ∧ y ≤ 99)) ∨ (r_7 = 0 ∧ ¬ (0 ≤ y ∧ y ≤ 99)) := hw_6
    rcases hw_6 with ⟨rfl, b14_8⟩ | ⟨rfl, b14_8⟩
    · refine lv_if_eq (tgt := 24) hF.1 hF.2.1 dX12_isPlace_17 (by decide) (fun h9 => absurd h9 (by decide)) (fun _ => ?_)
      refine lv_iconst (v := 1) hF.1 hF.2.1 dX12_isPlace_20 (by decide) ?_
      refine lv_goto (tgt := 25) hF.1 hF.2.1 dX12_isPlace_21 (by decide) ?_
      exact q_iret hF hr (by decide) hlocks hU hS dX12_isPlace_25 ⟨rfl, (g_X12_isPlace_v0 x y b4_4 b14_8)⟩
    · refine lv_if_eq (tgt := 24) hF.1 hF.2.1 dX12_isPlace_17 (by decide) (fun _ => ?_) (fun h9 => absurd (by decide) h9)
      refine lv_iconst (v := 0) hF.1 hF.2.1 dX12_isPlace_24 (by decide) ?_
      exact q_iret hF hr (by decide) hlocks hU hS dX12_isPlace_25 ⟨rfl, (g_X12_isPlace_v1 x y b4_4 b14_8)⟩
  · refine lv_if_eq (tgt := 24) hF.1 hF.2.1 dX12_isPlace_7 (by decide) (fun _ => ?_) (fun h9 => absurd (by decide) h9)
    refine lv_iconst (v := 0) hF.1 hF.2.1 dX12_isPlace_24 (by decide) ?_
    exact q_iret hF hr (by decide) hlocks hU hS dX12_isPlace_25 ⟨rfl, (g_X12_isPlace_v2 x y b4_4)⟩
set_option maxRecDepth 100000 in
theorem g_X12_isDay_v0 (x : Int32) (b5_4 : 0 ≤ x ∧ x ≤ 9999) : (1 = (1 : Int32) ∧ (0 ≤ x ∧ x ≤ 9999)) ∨ (1 = (0 : Int32) ∧ ¬ (0 ≤ x ∧ x ≤ 9999)) := by
  first | omega | ((try simp only [Int32.lt_iff_toInt_lt, Int32.le_iff_toInt_le, ← Int32.toInt_inj, Int32.toInt_add, Int32.toInt_sub, Int32.toInt_mul, Int32.toInt_neg, Int32.reduceToInt, g_bm, g_bm'] at *); omega) | (simp only [Int32.lt_iff_toInt_lt, Int32.le_iff_toInt_le, ← Int32.toInt_inj, Int32.toInt_add, Int32.toInt_sub, Int32.toInt_mul, Int32.toInt_neg, Int32.reduceToInt, g_bm, g_bm'] at *; simp at *; omega) | (simp_all; done)
set_option maxRecDepth 100000 in
theorem g_X12_isDay_v1 (x : Int32) (b5_4 : ¬ (0 ≤ x ∧ x ≤ 9999)) : (0 = (1 : Int32) ∧ (0 ≤ x ∧ x ≤ 9999)) ∨ (0 = (0 : Int32) ∧ ¬ (0 ≤ x ∧ x ≤ 9999)) := by
  first | omega | ((try simp only [Int32.lt_iff_toInt_lt, Int32.le_iff_toInt_le, ← Int32.toInt_inj, Int32.toInt_add, Int32.toInt_sub, Int32.toInt_mul, Int32.toInt_neg, Int32.reduceToInt, g_bm, g_bm'] at *); omega) | (simp only [Int32.lt_iff_toInt_lt, Int32.le_iff_toInt_le, ← Int32.toInt_inj, Int32.toInt_add, Int32.toInt_sub, Int32.toInt_mul, Int32.toInt_neg, Int32.reduceToInt, g_bm, g_bm'] at *; simp at *; omega) | (simp_all; done)
set_option maxHeartbeats 1000000 in
set_option maxRecDepth 100000 in
theorem g_X12_isDay (l : Launch) (E : qE) (A : Nat → Prop) (u : qS) (x : Int32) : Met l yX12_isDay (uws yX12_isDay cX12_isDay 1 (some .boolean)) (qR 1 0 0) (qPc E A 1 u [.int x]) (qQi E A 1 (fun r u1 => u1 = u ∧ ((r = 1 ∧ (0 ≤ x ∧ x ≤ 9999)) ∨ (r = 0 ∧ ¬ (0 ≤ x ∧ x ≤ 9999))))) 0 0 A := by
  refine q_met (own := RX12) (f := 1) [.int x] (by decide) (Nat.le_of_ble_eq_true rfl) rfl ?_
  intro p0 e0 s0 m0 bl0 me0 cd0 ls hF hr hlocks hU hS hA hl
  have hl : lv_has ls 1 [(0, .int x)] := hl
  refine lv_iload_n hF.1 hF.2.1 dX12_isDay_0 rfl (lv_at hl 0 rfl) ?_
  refine lv_iconst (v := 0) hF.1 hF.2.1 dX12_isDay_1 (by decide) ?_
  refine lv_sipush (v := 9999) hF.1 hF.2.1 dX12_isDay_2 (by decide) ?_
  have hM9 := g_X12_within l E A u x 0 9999
  have hR9 := q_runS (l := l) (e := e0) (below := bl0) (meth := me0) (R := qR 1 0 0) (cells := 0) (slots := 0) (st0 := [.int 9999, .int 0, .int x]) (rest := []) hF hU hS hA 3 hM9 w_1683 w_1684 w_107 w_1685 (by decide +kernel) ⟨Nat.le_of_ble_eq_true rfl, Nat.le_of_ble_eq_true rfl⟩ dX12_isDay_5 rfl hl.1 rfl (Nat.le_of_ble_eq_true rfl) ⟨Nat.le_of_ble_eq_true rfl, Nat.le_of_ble_eq_true rfl⟩
  refine q_calli hR9 hU.2.2.2 hS (fun r_3 u_1 H locs hw_2 hU hS => ?_)
  obtain ⟨hw_2_e, hw_2⟩ := hw_2
  rw [hw_2_e] at hU
  have hw_2 : (r_3 = 1 ∧ (0 ≤ x ∧ x ≤ 9999)) ∨ (r_3 = 0 ∧ ¬ (0 ≤ x ∧ x ≤ 9999)) := hw_2
  rcases hw_2 with ⟨rfl, b5_4⟩ | ⟨rfl, b5_4⟩
  · exact q_iret hF hr (by decide) hlocks hU hS dX12_isDay_8 ⟨rfl, (g_X12_isDay_v0 x b5_4)⟩
  · exact q_iret hF hr (by decide) hlocks hU hS dX12_isDay_8 ⟨rfl, (g_X12_isDay_v1 x b5_4)⟩
set_option maxRecDepth 100000 in
theorem g_X12_areDays_v0 (x : Int32) (y : Int32) (b1_4 : 0 ≤ x ∧ x ≤ 9999) (b8_8 : 0 ≤ y ∧ y ≤ 9999) (c16_9 : y < (x : Int32)) : (0 = (1 : Int32) ∧ ((0 ≤ x ∧ x ≤ 9999) ∧ (0 ≤ y ∧ y ≤ 9999) ∧ x ≤ y)) ∨ (0 = (0 : Int32) ∧ ¬ ((0 ≤ x ∧ x ≤ 9999) ∧ (0 ≤ y ∧ y ≤ 9999) ∧ x ≤ y)) := by
  first | omega | ((try simp only [Int32.lt_iff_toInt_lt, Int32.le_iff_toInt_le, ← Int32.toInt_inj, Int32.toInt_add, Int32.toInt_sub, Int32.toInt_mul, Int32.toInt_neg, Int32.reduceToInt, g_bm, g_bm'] at *); omega) | (simp only [Int32.lt_iff_toInt_lt, Int32.le_iff_toInt_le, ← Int32.toInt_inj, Int32.toInt_add, Int32.toInt_sub, Int32.toInt_mul, Int32.toInt_neg, Int32.reduceToInt, g_bm, g_bm'] at *; simp at *; omega) | (simp_all; done)
set_option maxRecDepth 100000 in
theorem g_X12_areDays_v1 (x : Int32) (y : Int32) (b1_4 : 0 ≤ x ∧ x ≤ 9999) (b8_8 : 0 ≤ y ∧ y ≤ 9999) (c16_9 : ¬ y < (x : Int32)) : (1 = (1 : Int32) ∧ ((0 ≤ x ∧ x ≤ 9999) ∧ (0 ≤ y ∧ y ≤ 9999) ∧ x ≤ y)) ∨ (1 = (0 : Int32) ∧ ¬ ((0 ≤ x ∧ x ≤ 9999) ∧ (0 ≤ y ∧ y ≤ 9999) ∧ x ≤ y)) := by
  first | omega | ((try simp only [Int32.lt_iff_toInt_lt, Int32.le_iff_toInt_le, ← Int32.toInt_inj, Int32.toInt_add, Int32.toInt_sub, Int32.toInt_mul, Int32.toInt_neg, Int32.reduceToInt, g_bm, g_bm'] at *); omega) | (simp only [Int32.lt_iff_toInt_lt, Int32.le_iff_toInt_le, ← Int32.toInt_inj, Int32.toInt_add, Int32.toInt_sub, Int32.toInt_mul, Int32.toInt_neg, Int32.reduceToInt, g_bm, g_bm'] at *; simp at *; omega) | (simp_all; done)
set_option maxRecDepth 100000 in
theorem g_X12_areDays_v2 (x : Int32) (y : Int32) (b1_4 : 0 ≤ x ∧ x ≤ 9999) (b8_8 : ¬ (0 ≤ y ∧ y ≤ 9999)) : (0 = (1 : Int32) ∧ ((0 ≤ x ∧ x ≤ 9999) ∧ (0 ≤ y ∧ y ≤ 9999) ∧ x ≤ y)) ∨ (0 = (0 : Int32) ∧ ¬ ((0 ≤ x ∧ x ≤ 9999) ∧ (0 ≤ y ∧ y ≤ 9999) ∧ x ≤ y)) := by
  first | omega | ((try simp only [Int32.lt_iff_toInt_lt, Int32.le_iff_toInt_le, ← Int32.toInt_inj, Int32.toInt_add, Int32.toInt_sub, Int32.toInt_mul, Int32.toInt_neg, Int32.reduceToInt, g_bm, g_bm'] at *); omega) | (simp only [Int32.lt_iff_toInt_lt, Int32.le_iff_toInt_le, ← Int32.toInt_inj, Int32.toInt_add, Int32.toInt_sub, Int32.toInt_mul, Int32.toInt_neg, Int32.reduceToInt, g_bm, g_bm'] at *; simp at *; omega) | (simp_all; done)
set_option maxRecDepth 100000 in
theorem g_X12_areDays_v3 (x : Int32) (y : Int32) (b1_4 : ¬ (0 ≤ x ∧ x ≤ 9999)) : (0 = (1 : Int32) ∧ ((0 ≤ x ∧ x ≤ 9999) ∧ (0 ≤ y ∧ y ≤ 9999) ∧ x ≤ y)) ∨ (0 = (0 : Int32) ∧ ¬ ((0 ≤ x ∧ x ≤ 9999) ∧ (0 ≤ y ∧ y ≤ 9999) ∧ x ≤ y)) := by
  first | omega | ((try simp only [Int32.lt_iff_toInt_lt, Int32.le_iff_toInt_le, ← Int32.toInt_inj, Int32.toInt_add, Int32.toInt_sub, Int32.toInt_mul, Int32.toInt_neg, Int32.reduceToInt, g_bm, g_bm'] at *); omega) | (simp only [Int32.lt_iff_toInt_lt, Int32.le_iff_toInt_le, ← Int32.toInt_inj, Int32.toInt_add, Int32.toInt_sub, Int32.toInt_mul, Int32.toInt_neg, Int32.reduceToInt, g_bm, g_bm'] at *; simp at *; omega) | (simp_all; done)
set_option maxHeartbeats 1000000 in
set_option maxRecDepth 100000 in
theorem g_X12_areDays (l : Launch) (E : qE) (A : Nat → Prop) (u : qS) (x : Int32) (y : Int32) : Met l yX12_areDays (uws yX12_areDays cX12_areDays 2 (some .boolean)) (qR 2 0 0) (qPc E A 1 u [.int x, .int y]) (qQi E A 1 (fun r u1 => u1 = u ∧ ((r = 1 ∧ ((0 ≤ x ∧ x ≤ 9999) ∧ (0 ≤ y ∧ y ≤ 9999) ∧ x ≤ y)) ∨ (r = 0 ∧ ¬ ((0 ≤ x ∧ x ≤ 9999) ∧ (0 ≤ y ∧ y ≤ 9999) ∧ x ≤ y))))) 0 0 A := by
  refine q_met (own := RX12) (f := 2) [.int x, .int y] (by decide) (Nat.le_of_ble_eq_true rfl) rfl ?_
  intro p0 e0 s0 m0 bl0 me0 cd0 ls hF hr hlocks hU hS hA hl
  have hl : lv_has ls 2 [(0, .int x), (1, .int y)] := hl
  refine lv_iload_n hF.1 hF.2.1 dX12_areDays_0 rfl (lv_at hl 0 rfl) ?_
  have hM9 := g_X12_isDay l E A u x
  have hR9 := q_runS (l := l) (e := e0) (below := bl0) (meth := me0) (R := qR 2 0 0) (cells := 0) (slots := 0) (st0 := [.int x]) (rest := []) hF hU hS hA 1 hM9 w_1809 w_1810 w_107 w_1811 (by decide +kernel) ⟨Nat.le_of_ble_eq_true rfl, Nat.le_of_ble_eq_true rfl⟩ dX12_areDays_1 rfl hl.1 rfl (Nat.le_of_ble_eq_true rfl) ⟨Nat.le_of_ble_eq_true rfl, Nat.le_of_ble_eq_true rfl⟩
  refine q_calli hR9 hU.2.2.2 hS (fun r_3 u_1 H locs hw_2 hU hS => ?_)
  obtain ⟨hw_2_e, hw_2⟩ := hw_2
  rw [hw_2_e] at hU
  have hw_2 : (r_3 = 1 ∧ (0 ≤ x ∧ x ≤ 9999)) ∨ (r_3 = 0 ∧ ¬ (0 ≤ x ∧ x ≤ 9999)) := hw_2
  rcases hw_2 with ⟨rfl, b1_4⟩ | ⟨rfl, b1_4⟩
  · refine lv_if_eq (tgt := 23) hF.1 hF.2.1 dX12_areDays_4 (by decide) (fun h9 => absurd h9 (by decide)) (fun _ => ?_)
    refine lv_iload_n hF.1 hF.2.1 dX12_areDays_7 rfl (lv_at hl 1 rfl) ?_
    have hM9 := g_X12_isDay l E A u y
    have hR9 := q_runS (l := l) (e := e0) (below := bl0) (meth := me0) (R := qR 2 0 0) (cells := 0) (slots := 0) (st0 := [.int y]) (rest := []) hF hU hS hA 1 hM9 w_1809 w_1810 w_107 w_1811 (by decide +kernel) ⟨Nat.le_of_ble_eq_true rfl, Nat.le_of_ble_eq_true rfl⟩ dX12_areDays_8 rfl hl.1 rfl (Nat.le_of_ble_eq_true rfl) ⟨Nat.le_of_ble_eq_true rfl, Nat.le_of_ble_eq_true rfl⟩
    refine q_calli hR9 hU.2.2.2 hS (fun r_7 u_5 H locs hw_6 hU hS => ?_)
    obtain ⟨hw_6_e, hw_6⟩ := hw_6
    rw [hw_6_e] at hU
    have hw_6 : (r_7 = 1 ∧ (0 ≤ y ∧ y ≤ 9999)) ∨ (r_7 = 0 ∧ ¬ (0 ≤ y ∧ y ≤ 9999)) := hw_6
    rcases hw_6 with ⟨rfl, b8_8⟩ | ⟨rfl, b8_8⟩
    · refine lv_if_eq (tgt := 23) hF.1 hF.2.1 dX12_areDays_11 (by decide) (fun h9 => absurd h9 (by decide)) (fun _ => ?_)
      refine lv_iload_n hF.1 hF.2.1 dX12_areDays_14 rfl (lv_at hl 0 rfl) ?_
      refine lv_iload_n hF.1 hF.2.1 dX12_areDays_15 rfl (lv_at hl 1 rfl) ?_
      refine lv_icmp_gt (tgt := 23) hF.1 hF.2.1 dX12_areDays_16 (by decide) (fun c16_9 => ?_) (fun c16_9 => ?_)
      · refine lv_iconst (v := 0) hF.1 hF.2.1 dX12_areDays_23 (by decide) ?_
        exact q_iret hF hr (by decide) hlocks hU hS dX12_areDays_24 ⟨rfl, (g_X12_areDays_v0 x y b1_4 b8_8 c16_9)⟩
      · refine lv_iconst (v := 1) hF.1 hF.2.1 dX12_areDays_19 (by decide) ?_
        refine lv_goto (tgt := 24) hF.1 hF.2.1 dX12_areDays_20 (by decide) ?_
        exact q_iret hF hr (by decide) hlocks hU hS dX12_areDays_24 ⟨rfl, (g_X12_areDays_v1 x y b1_4 b8_8 c16_9)⟩
    · refine lv_if_eq (tgt := 23) hF.1 hF.2.1 dX12_areDays_11 (by decide) (fun _ => ?_) (fun h9 => absurd (by decide) h9)
      refine lv_iconst (v := 0) hF.1 hF.2.1 dX12_areDays_23 (by decide) ?_
      exact q_iret hF hr (by decide) hlocks hU hS dX12_areDays_24 ⟨rfl, (g_X12_areDays_v2 x y b1_4 b8_8)⟩
  · refine lv_if_eq (tgt := 23) hF.1 hF.2.1 dX12_areDays_4 (by decide) (fun _ => ?_) (fun h9 => absurd (by decide) h9)
    refine lv_iconst (v := 0) hF.1 hF.2.1 dX12_areDays_23 (by decide) ?_
    exact q_iret hF hr (by decide) hlocks hU hS dX12_areDays_24 ⟨rfl, (g_X12_areDays_v3 x y b1_4)⟩
set_option maxRecDepth 100000 in
theorem g_X12_isLetter_v0 (x : Int32) (c3_1 : (x : Int32) < 97) : (0 : Int32) = 1 ∨ (0 : Int32) = 0 := by
  first | omega | ((try simp only [Int32.lt_iff_toInt_lt, Int32.le_iff_toInt_le, ← Int32.toInt_inj, Int32.toInt_add, Int32.toInt_sub, Int32.toInt_mul, Int32.toInt_neg, Int32.reduceToInt, g_bm, g_bm'] at *); omega) | (simp only [Int32.lt_iff_toInt_lt, Int32.le_iff_toInt_le, ← Int32.toInt_inj, Int32.toInt_add, Int32.toInt_sub, Int32.toInt_mul, Int32.toInt_neg, Int32.reduceToInt, g_bm, g_bm'] at *; simp at *; omega) | (simp_all; done)
set_option maxRecDepth 100000 in
theorem g_X12_isLetter_v1 (x : Int32) (c3_1 : ¬ (x : Int32) < 97) (c9_2 : 122 < (x : Int32)) : (0 : Int32) = 1 ∨ (0 : Int32) = 0 := by
  first | omega | ((try simp only [Int32.lt_iff_toInt_lt, Int32.le_iff_toInt_le, ← Int32.toInt_inj, Int32.toInt_add, Int32.toInt_sub, Int32.toInt_mul, Int32.toInt_neg, Int32.reduceToInt, g_bm, g_bm'] at *); omega) | (simp only [Int32.lt_iff_toInt_lt, Int32.le_iff_toInt_le, ← Int32.toInt_inj, Int32.toInt_add, Int32.toInt_sub, Int32.toInt_mul, Int32.toInt_neg, Int32.reduceToInt, g_bm, g_bm'] at *; simp at *; omega) | (simp_all; done)
set_option maxRecDepth 100000 in
theorem g_X12_isLetter_v2 (x : Int32) (c3_1 : ¬ (x : Int32) < 97) (c9_2 : ¬ 122 < (x : Int32)) : (1 : Int32) = 1 ∨ (1 : Int32) = 0 := by
  first | omega | ((try simp only [Int32.lt_iff_toInt_lt, Int32.le_iff_toInt_le, ← Int32.toInt_inj, Int32.toInt_add, Int32.toInt_sub, Int32.toInt_mul, Int32.toInt_neg, Int32.reduceToInt, g_bm, g_bm'] at *); omega) | (simp only [Int32.lt_iff_toInt_lt, Int32.le_iff_toInt_le, ← Int32.toInt_inj, Int32.toInt_add, Int32.toInt_sub, Int32.toInt_mul, Int32.toInt_neg, Int32.reduceToInt, g_bm, g_bm'] at *; simp at *; omega) | (simp_all; done)
set_option maxHeartbeats 1000000 in
set_option maxRecDepth 100000 in
theorem g_X12_isLetter (l : Launch) (E : qE) (A : Nat → Prop) (u : qS) (x : Int32) : Met l yX12_isLetter (uws yX12_isLetter cX12_isLetter 1 (some .boolean)) (qR 0 0 0) (qPc E A 1 u [.int x]) (qQi E A 1 (fun r u1 => u1 = u ∧ (r = 1 ∨ r = 0))) 0 0 A := by
  refine q_met (own := RX12) (f := 0) [.int x] (by decide) (Nat.le_of_ble_eq_true rfl) rfl ?_
  intro p0 e0 s0 m0 bl0 me0 cd0 ls hF hr hlocks hU hS hA hl
  have hl : lv_has ls 1 [(0, .int x)] := hl
  refine lv_iload_n hF.1 hF.2.1 dX12_isLetter_0 rfl (lv_at hl 0 rfl) ?_
  refine lv_bipush (v := 97) hF.1 hF.2.1 dX12_isLetter_1 (by decide) ?_
  refine lv_icmp_lt (tgt := 16) hF.1 hF.2.1 dX12_isLetter_3 (by decide) (fun c3_1 => ?_) (fun c3_1 => ?_)
  · refine lv_iconst (v := 0) hF.1 hF.2.1 dX12_isLetter_16 (by decide) ?_
    exact q_iret hF hr (by decide) hlocks hU hS dX12_isLetter_17 ⟨rfl, (g_X12_isLetter_v0 x c3_1)⟩
  · refine lv_iload_n hF.1 hF.2.1 dX12_isLetter_6 rfl (lv_at hl 0 rfl) ?_
    refine lv_bipush (v := 122) hF.1 hF.2.1 dX12_isLetter_7 (by decide) ?_
    refine lv_icmp_gt (tgt := 16) hF.1 hF.2.1 dX12_isLetter_9 (by decide) (fun c9_2 => ?_) (fun c9_2 => ?_)
    · refine lv_iconst (v := 0) hF.1 hF.2.1 dX12_isLetter_16 (by decide) ?_
      exact q_iret hF hr (by decide) hlocks hU hS dX12_isLetter_17 ⟨rfl, (g_X12_isLetter_v1 x c3_1 c9_2)⟩
    · refine lv_iconst (v := 1) hF.1 hF.2.1 dX12_isLetter_12 (by decide) ?_
      refine lv_goto (tgt := 17) hF.1 hF.2.1 dX12_isLetter_13 (by decide) ?_
      exact q_iret hF hr (by decide) hlocks hU hS dX12_isLetter_17 ⟨rfl, (g_X12_isLetter_v2 x c3_1 c9_2)⟩
set_option maxRecDepth 100000 in
theorem g_X12_isDigit_v0 (x : Int32) (c3_1 : (x : Int32) < 48) : (0 : Int32) = 1 ∨ (0 : Int32) = 0 := by
  first | omega | ((try simp only [Int32.lt_iff_toInt_lt, Int32.le_iff_toInt_le, ← Int32.toInt_inj, Int32.toInt_add, Int32.toInt_sub, Int32.toInt_mul, Int32.toInt_neg, Int32.reduceToInt, g_bm, g_bm'] at *); omega) | (simp only [Int32.lt_iff_toInt_lt, Int32.le_iff_toInt_le, ← Int32.toInt_inj, Int32.toInt_add, Int32.toInt_sub, Int32.toInt_mul, Int32.toInt_neg, Int32.reduceToInt, g_bm, g_bm'] at *; simp at *; omega) | (simp_all; done)
set_option maxRecDepth 100000 in
theorem g_X12_isDigit_v1 (x : Int32) (c3_1 : ¬ (x : Int32) < 48) (c9_2 : 57 < (x : Int32)) : (0 : Int32) = 1 ∨ (0 : Int32) = 0 := by
  first | omega | ((try simp only [Int32.lt_iff_toInt_lt, Int32.le_iff_toInt_le, ← Int32.toInt_inj, Int32.toInt_add, Int32.toInt_sub, Int32.toInt_mul, Int32.toInt_neg, Int32.reduceToInt, g_bm, g_bm'] at *); omega) | (simp only [Int32.lt_iff_toInt_lt, Int32.le_iff_toInt_le, ← Int32.toInt_inj, Int32.toInt_add, Int32.toInt_sub, Int32.toInt_mul, Int32.toInt_neg, Int32.reduceToInt, g_bm, g_bm'] at *; simp at *; omega) | (simp_all; done)
set_option maxRecDepth 100000 in
theorem g_X12_isDigit_v2 (x : Int32) (c3_1 : ¬ (x : Int32) < 48) (c9_2 : ¬ 57 < (x : Int32)) : (1 : Int32) = 1 ∨ (1 : Int32) = 0 := by
  first | omega | ((try simp only [Int32.lt_iff_toInt_lt, Int32.le_iff_toInt_le, ← Int32.toInt_inj, Int32.toInt_add, Int32.toInt_sub, Int32.toInt_mul, Int32.toInt_neg, Int32.reduceToInt, g_bm, g_bm'] at *); omega) | (simp only [Int32.lt_iff_toInt_lt, Int32.le_iff_toInt_le, ← Int32.toInt_inj, Int32.toInt_add, Int32.toInt_sub, Int32.toInt_mul, Int32.toInt_neg, Int32.reduceToInt, g_bm, g_bm'] at *; simp at *; omega) | (simp_all; done)
set_option maxHeartbeats 1000000 in
set_option maxRecDepth 100000 in
theorem g_X12_isDigit (l : Launch) (E : qE) (A : Nat → Prop) (u : qS) (x : Int32) : Met l yX12_isDigit (uws yX12_isDigit cX12_isDigit 1 (some .boolean)) (qR 0 0 0) (qPc E A 1 u [.int x]) (qQi E A 1 (fun r u1 => u1 = u ∧ (r = 1 ∨ r = 0))) 0 0 A := by
  refine q_met (own := RX12) (f := 0) [.int x] (by decide) (Nat.le_of_ble_eq_true rfl) rfl ?_
  intro p0 e0 s0 m0 bl0 me0 cd0 ls hF hr hlocks hU hS hA hl
  have hl : lv_has ls 1 [(0, .int x)] := hl
  refine lv_iload_n hF.1 hF.2.1 dX12_isDigit_0 rfl (lv_at hl 0 rfl) ?_
  refine lv_bipush (v := 48) hF.1 hF.2.1 dX12_isDigit_1 (by decide) ?_
  refine lv_icmp_lt (tgt := 16) hF.1 hF.2.1 dX12_isDigit_3 (by decide) (fun c3_1 => ?_) (fun c3_1 => ?_)
  · refine lv_iconst (v := 0) hF.1 hF.2.1 dX12_isDigit_16 (by decide) ?_
    exact q_iret hF hr (by decide) hlocks hU hS dX12_isDigit_17 ⟨rfl, (g_X12_isDigit_v0 x c3_1)⟩
  · refine lv_iload_n hF.1 hF.2.1 dX12_isDigit_6 rfl (lv_at hl 0 rfl) ?_
    refine lv_bipush (v := 57) hF.1 hF.2.1 dX12_isDigit_7 (by decide) ?_
    refine lv_icmp_gt (tgt := 16) hF.1 hF.2.1 dX12_isDigit_9 (by decide) (fun c9_2 => ?_) (fun c9_2 => ?_)
    · refine lv_iconst (v := 0) hF.1 hF.2.1 dX12_isDigit_16 (by decide) ?_
      exact q_iret hF hr (by decide) hlocks hU hS dX12_isDigit_17 ⟨rfl, (g_X12_isDigit_v1 x c3_1 c9_2)⟩
    · refine lv_iconst (v := 1) hF.1 hF.2.1 dX12_isDigit_12 (by decide) ?_
      refine lv_goto (tgt := 17) hF.1 hF.2.1 dX12_isDigit_13 (by decide) ?_
      exact q_iret hF hr (by decide) hlocks hU hS dX12_isDigit_17 ⟨rfl, (g_X12_isDigit_v2 x c3_1 c9_2)⟩
set_option maxHeartbeats 1000000 in
set_option maxRecDepth 100000 in
theorem g_X12_rank (l : Launch) (E : qE) (A : Nat → Prop) (u : qS) (x : Int32) : Met l yX12_rank (uws yX12_rank cX12_rank 1 (some .int)) (qR 1 0 0) (qPc E A 1 u [.int x]) (qQi E A 1 (fun r u1 => u1 = u ∧ (True))) 0 0 A := by
  refine q_met (own := RX12) (f := 1) [.int x] (by decide) (Nat.le_of_ble_eq_true rfl) rfl ?_
  intro p0 e0 s0 m0 bl0 me0 cd0 ls hF hr hlocks hU hS hA hl
  have hl : lv_has ls 1 [(0, .int x)] := hl
  refine lv_iload_n hF.1 hF.2.1 dX12_rank_0 rfl (lv_at hl 0 rfl) ?_
  have hM9 := g_X12_isLetter l E A u x
  have hR9 := q_runS (l := l) (e := e0) (below := bl0) (meth := me0) (R := qR 1 0 0) (cells := 0) (slots := 0) (st0 := [.int x]) (rest := []) hF hU hS hA 1 hM9 w_1584 w_1585 w_107 w_1586 (by decide +kernel) ⟨Nat.le_of_ble_eq_true rfl, Nat.le_of_ble_eq_true rfl⟩ dX12_rank_1 rfl hl.1 rfl (Nat.le_of_ble_eq_true rfl) ⟨Nat.le_of_ble_eq_true rfl, Nat.le_of_ble_eq_true rfl⟩
  refine q_calli hR9 hU.2.2.2 hS (fun r_3 u_1 H locs hw_2 hU hS => ?_)
  obtain ⟨hw_2_e, hw_2⟩ := hw_2
  rw [hw_2_e] at hU
  rcases hw_2 with rfl | rfl
  · refine lv_if_eq (tgt := 14) hF.1 hF.2.1 dX12_rank_4 (by decide) (fun h9 => absurd h9 (by decide)) (fun _ => ?_)
    refine lv_iload_n hF.1 hF.2.1 dX12_rank_7 rfl (lv_at hl 0 rfl) ?_
    refine lv_bipush (v := 96) hF.1 hF.2.1 dX12_rank_8 (by decide) ?_
    refine lv_isub hF.1 hF.2.1 dX12_rank_10 ?_
    refine lv_goto (tgt := 18) hF.1 hF.2.1 dX12_rank_11 (by decide) ?_
    exact q_iret hF hr rfl hlocks hU hS dX12_rank_18 ⟨rfl, trivial⟩
  · refine lv_if_eq (tgt := 14) hF.1 hF.2.1 dX12_rank_4 (by decide) (fun _ => ?_) (fun h9 => absurd (by decide) h9)
    refine lv_iload_n hF.1 hF.2.1 dX12_rank_14 rfl (lv_at hl 0 rfl) ?_
    refine lv_bipush (v := 21) hF.1 hF.2.1 dX12_rank_15 (by decide) ?_
    refine lv_isub hF.1 hF.2.1 dX12_rank_17 ?_
    exact q_iret hF hr rfl hlocks hU hS dX12_rank_18 ⟨rfl, trivial⟩
set_option maxRecDepth 100000 in
theorem g_X12_isSignOf_v0 (x : Int32) (c3_1 : (x : Int32) = 40) : (1 : Int32) = 1 ∨ (1 : Int32) = 0 := by
  first | omega | ((try simp only [Int32.lt_iff_toInt_lt, Int32.le_iff_toInt_le, ← Int32.toInt_inj, Int32.toInt_add, Int32.toInt_sub, Int32.toInt_mul, Int32.toInt_neg, Int32.reduceToInt, g_bm, g_bm'] at *); omega) | (simp only [Int32.lt_iff_toInt_lt, Int32.le_iff_toInt_le, ← Int32.toInt_inj, Int32.toInt_add, Int32.toInt_sub, Int32.toInt_mul, Int32.toInt_neg, Int32.reduceToInt, g_bm, g_bm'] at *; simp at *; omega) | (simp_all; done)
set_option maxRecDepth 100000 in
theorem g_X12_isSignOf_v1 (x : Int32) (c3_1 : ¬ (x : Int32) = 40) (c9_2 : (x : Int32) = 41) : (1 : Int32) = 1 ∨ (1 : Int32) = 0 := by
  first | omega | ((try simp only [Int32.lt_iff_toInt_lt, Int32.le_iff_toInt_le, ← Int32.toInt_inj, Int32.toInt_add, Int32.toInt_sub, Int32.toInt_mul, Int32.toInt_neg, Int32.reduceToInt, g_bm, g_bm'] at *); omega) | (simp only [Int32.lt_iff_toInt_lt, Int32.le_iff_toInt_le, ← Int32.toInt_inj, Int32.toInt_add, Int32.toInt_sub, Int32.toInt_mul, Int32.toInt_neg, Int32.reduceToInt, g_bm, g_bm'] at *; simp at *; omega) | (simp_all; done)
set_option maxRecDepth 100000 in
theorem g_X12_isSignOf_v2 (x : Int32) (c3_1 : ¬ (x : Int32) = 40) (c9_2 : ¬ (x : Int32) = 41) (c15_3 : (x : Int32) = 59) : (1 : Int32) = 1 ∨ (1 : Int32) = 0 := by
  first | omega | ((try simp only [Int32.lt_iff_toInt_lt, Int32.le_iff_toInt_le, ← Int32.toInt_inj, Int32.toInt_add, Int32.toInt_sub, Int32.toInt_mul, Int32.toInt_neg, Int32.reduceToInt, g_bm, g_bm'] at *); omega) | (simp only [Int32.lt_iff_toInt_lt, Int32.le_iff_toInt_le, ← Int32.toInt_inj, Int32.toInt_add, Int32.toInt_sub, Int32.toInt_mul, Int32.toInt_neg, Int32.reduceToInt, g_bm, g_bm'] at *; simp at *; omega) | (simp_all; done)
set_option maxRecDepth 100000 in
theorem g_X12_isSignOf_v3 (x : Int32) (c3_1 : ¬ (x : Int32) = 40) (c9_2 : ¬ (x : Int32) = 41) (c15_3 : ¬ (x : Int32) = 59) (c21_4 : (x : Int32) = 61) : (1 : Int32) = 1 ∨ (1 : Int32) = 0 := by
  first | omega | ((try simp only [Int32.lt_iff_toInt_lt, Int32.le_iff_toInt_le, ← Int32.toInt_inj, Int32.toInt_add, Int32.toInt_sub, Int32.toInt_mul, Int32.toInt_neg, Int32.reduceToInt, g_bm, g_bm'] at *); omega) | (simp only [Int32.lt_iff_toInt_lt, Int32.le_iff_toInt_le, ← Int32.toInt_inj, Int32.toInt_add, Int32.toInt_sub, Int32.toInt_mul, Int32.toInt_neg, Int32.reduceToInt, g_bm, g_bm'] at *; simp at *; omega) | (simp_all; done)
set_option maxRecDepth 100000 in
theorem g_X12_isSignOf_v4 (x : Int32) (c3_1 : ¬ (x : Int32) = 40) (c9_2 : ¬ (x : Int32) = 41) (c15_3 : ¬ (x : Int32) = 59) (c21_4 : ¬ (x : Int32) = 61) (c27_5 : (x : Int32) = 60) : (1 : Int32) = 1 ∨ (1 : Int32) = 0 := by
  first | omega | ((try simp only [Int32.lt_iff_toInt_lt, Int32.le_iff_toInt_le, ← Int32.toInt_inj, Int32.toInt_add, Int32.toInt_sub, Int32.toInt_mul, Int32.toInt_neg, Int32.reduceToInt, g_bm, g_bm'] at *); omega) | (simp only [Int32.lt_iff_toInt_lt, Int32.le_iff_toInt_le, ← Int32.toInt_inj, Int32.toInt_add, Int32.toInt_sub, Int32.toInt_mul, Int32.toInt_neg, Int32.reduceToInt, g_bm, g_bm'] at *; simp at *; omega) | (simp_all; done)
set_option maxRecDepth 100000 in
theorem g_X12_isSignOf_v5 (x : Int32) (c3_1 : ¬ (x : Int32) = 40) (c9_2 : ¬ (x : Int32) = 41) (c15_3 : ¬ (x : Int32) = 59) (c21_4 : ¬ (x : Int32) = 61) (c27_5 : ¬ (x : Int32) = 60) (c33_6 : (x : Int32) = 43) : (1 : Int32) = 1 ∨ (1 : Int32) = 0 := by
  first | omega | ((try simp only [Int32.lt_iff_toInt_lt, Int32.le_iff_toInt_le, ← Int32.toInt_inj, Int32.toInt_add, Int32.toInt_sub, Int32.toInt_mul, Int32.toInt_neg, Int32.reduceToInt, g_bm, g_bm'] at *); omega) | (simp only [Int32.lt_iff_toInt_lt, Int32.le_iff_toInt_le, ← Int32.toInt_inj, Int32.toInt_add, Int32.toInt_sub, Int32.toInt_mul, Int32.toInt_neg, Int32.reduceToInt, g_bm, g_bm'] at *; simp at *; omega) | (simp_all; done)
set_option maxRecDepth 100000 in
theorem g_X12_isSignOf_v6 (x : Int32) (c3_1 : ¬ (x : Int32) = 40) (c9_2 : ¬ (x : Int32) = 41) (c15_3 : ¬ (x : Int32) = 59) (c21_4 : ¬ (x : Int32) = 61) (c27_5 : ¬ (x : Int32) = 60) (c33_6 : ¬ (x : Int32) = 43) (c39_7 : (x : Int32) = 45) : (1 : Int32) = 1 ∨ (1 : Int32) = 0 := by
  first | omega | ((try simp only [Int32.lt_iff_toInt_lt, Int32.le_iff_toInt_le, ← Int32.toInt_inj, Int32.toInt_add, Int32.toInt_sub, Int32.toInt_mul, Int32.toInt_neg, Int32.reduceToInt, g_bm, g_bm'] at *); omega) | (simp only [Int32.lt_iff_toInt_lt, Int32.le_iff_toInt_le, ← Int32.toInt_inj, Int32.toInt_add, Int32.toInt_sub, Int32.toInt_mul, Int32.toInt_neg, Int32.reduceToInt, g_bm, g_bm'] at *; simp at *; omega) | (simp_all; done)
set_option maxRecDepth 100000 in
theorem g_X12_isSignOf_v7 (x : Int32) (c3_1 : ¬ (x : Int32) = 40) (c9_2 : ¬ (x : Int32) = 41) (c15_3 : ¬ (x : Int32) = 59) (c21_4 : ¬ (x : Int32) = 61) (c27_5 : ¬ (x : Int32) = 60) (c33_6 : ¬ (x : Int32) = 43) (c39_7 : ¬ (x : Int32) = 45) (c45_8 : ¬ (x : Int32) = 42) : (0 : Int32) = 1 ∨ (0 : Int32) = 0 := by
  first | omega | ((try simp only [Int32.lt_iff_toInt_lt, Int32.le_iff_toInt_le, ← Int32.toInt_inj, Int32.toInt_add, Int32.toInt_sub, Int32.toInt_mul, Int32.toInt_neg, Int32.reduceToInt, g_bm, g_bm'] at *); omega) | (simp only [Int32.lt_iff_toInt_lt, Int32.le_iff_toInt_le, ← Int32.toInt_inj, Int32.toInt_add, Int32.toInt_sub, Int32.toInt_mul, Int32.toInt_neg, Int32.reduceToInt, g_bm, g_bm'] at *; simp at *; omega) | (simp_all; done)
set_option maxRecDepth 100000 in
theorem g_X12_isSignOf_v8 (x : Int32) (c3_1 : ¬ (x : Int32) = 40) (c9_2 : ¬ (x : Int32) = 41) (c15_3 : ¬ (x : Int32) = 59) (c21_4 : ¬ (x : Int32) = 61) (c27_5 : ¬ (x : Int32) = 60) (c33_6 : ¬ (x : Int32) = 43) (c39_7 : ¬ (x : Int32) = 45) (c45_8 : (x : Int32) = 42) : (1 : Int32) = 1 ∨ (1 : Int32) = 0 := by
  first | omega | ((try simp only [Int32.lt_iff_toInt_lt, Int32.le_iff_toInt_le, ← Int32.toInt_inj, Int32.toInt_add, Int32.toInt_sub, Int32.toInt_mul, Int32.toInt_neg, Int32.reduceToInt, g_bm, g_bm'] at *); omega) | (simp only [Int32.lt_iff_toInt_lt, Int32.le_iff_toInt_le, ← Int32.toInt_inj, Int32.toInt_add, Int32.toInt_sub, Int32.toInt_mul, Int32.toInt_neg, Int32.reduceToInt, g_bm, g_bm'] at *; simp at *; omega) | (simp_all; done)
set_option maxHeartbeats 1000000 in
set_option maxRecDepth 100000 in
theorem g_X12_isSignOf (l : Launch) (E : qE) (A : Nat → Prop) (u : qS) (x : Int32) : Met l yX12_isSignOf (uws yX12_isSignOf cX12_isSignOf 1 (some .boolean)) (qR 0 0 0) (qPc E A 1 u [.int x]) (qQi E A 1 (fun r u1 => u1 = u ∧ (r = 1 ∨ r = 0))) 0 0 A := by
  refine q_met (own := RX12) (f := 0) [.int x] (by decide) (Nat.le_of_ble_eq_true rfl) rfl ?_
  intro p0 e0 s0 m0 bl0 me0 cd0 ls hF hr hlocks hU hS hA hl
  have hl : lv_has ls 1 [(0, .int x)] := hl
  refine lv_iload_n hF.1 hF.2.1 dX12_isSignOf_0 rfl (lv_at hl 0 rfl) ?_
  refine lv_bipush (v := 40) hF.1 hF.2.1 dX12_isSignOf_1 (by decide) ?_
  refine lv_icmp_eq (tgt := 48) hF.1 hF.2.1 dX12_isSignOf_3 (by decide) (fun c3_1 => ?_) (fun c3_1 => ?_)
  · refine lv_iconst (v := 1) hF.1 hF.2.1 dX12_isSignOf_48 (by decide) ?_
    refine lv_goto (tgt := 53) hF.1 hF.2.1 dX12_isSignOf_49 (by decide) ?_
    exact q_iret hF hr (by decide) hlocks hU hS dX12_isSignOf_53 ⟨rfl, (g_X12_isSignOf_v0 x c3_1)⟩
  · refine lv_iload_n hF.1 hF.2.1 dX12_isSignOf_6 rfl (lv_at hl 0 rfl) ?_
    refine lv_bipush (v := 41) hF.1 hF.2.1 dX12_isSignOf_7 (by decide) ?_
    refine lv_icmp_eq (tgt := 48) hF.1 hF.2.1 dX12_isSignOf_9 (by decide) (fun c9_2 => ?_) (fun c9_2 => ?_)
    · refine lv_iconst (v := 1) hF.1 hF.2.1 dX12_isSignOf_48 (by decide) ?_
      refine lv_goto (tgt := 53) hF.1 hF.2.1 dX12_isSignOf_49 (by decide) ?_
      exact q_iret hF hr (by decide) hlocks hU hS dX12_isSignOf_53 ⟨rfl, (g_X12_isSignOf_v1 x c3_1 c9_2)⟩
    · refine lv_iload_n hF.1 hF.2.1 dX12_isSignOf_12 rfl (lv_at hl 0 rfl) ?_
      refine lv_bipush (v := 59) hF.1 hF.2.1 dX12_isSignOf_13 (by decide) ?_
      refine lv_icmp_eq (tgt := 48) hF.1 hF.2.1 dX12_isSignOf_15 (by decide) (fun c15_3 => ?_) (fun c15_3 => ?_)
      · refine lv_iconst (v := 1) hF.1 hF.2.1 dX12_isSignOf_48 (by decide) ?_
        refine lv_goto (tgt := 53) hF.1 hF.2.1 dX12_isSignOf_49 (by decide) ?_
        exact q_iret hF hr (by decide) hlocks hU hS dX12_isSignOf_53 ⟨rfl, (g_X12_isSignOf_v2 x c3_1 c9_2 c15_3)⟩
      · refine lv_iload_n hF.1 hF.2.1 dX12_isSignOf_18 rfl (lv_at hl 0 rfl) ?_
        refine lv_bipush (v := 61) hF.1 hF.2.1 dX12_isSignOf_19 (by decide) ?_
        refine lv_icmp_eq (tgt := 48) hF.1 hF.2.1 dX12_isSignOf_21 (by decide) (fun c21_4 => ?_) (fun c21_4 => ?_)
        · refine lv_iconst (v := 1) hF.1 hF.2.1 dX12_isSignOf_48 (by decide) ?_
          refine lv_goto (tgt := 53) hF.1 hF.2.1 dX12_isSignOf_49 (by decide) ?_
          exact q_iret hF hr (by decide) hlocks hU hS dX12_isSignOf_53 ⟨rfl, (g_X12_isSignOf_v3 x c3_1 c9_2 c15_3 c21_4)⟩
        · refine lv_iload_n hF.1 hF.2.1 dX12_isSignOf_24 rfl (lv_at hl 0 rfl) ?_
          refine lv_bipush (v := 60) hF.1 hF.2.1 dX12_isSignOf_25 (by decide) ?_
          refine lv_icmp_eq (tgt := 48) hF.1 hF.2.1 dX12_isSignOf_27 (by decide) (fun c27_5 => ?_) (fun c27_5 => ?_)
          · refine lv_iconst (v := 1) hF.1 hF.2.1 dX12_isSignOf_48 (by decide) ?_
            refine lv_goto (tgt := 53) hF.1 hF.2.1 dX12_isSignOf_49 (by decide) ?_
            exact q_iret hF hr (by decide) hlocks hU hS dX12_isSignOf_53 ⟨rfl, (g_X12_isSignOf_v4 x c3_1 c9_2 c15_3 c21_4 c27_5)⟩
          · refine lv_iload_n hF.1 hF.2.1 dX12_isSignOf_30 rfl (lv_at hl 0 rfl) ?_
            refine lv_bipush (v := 43) hF.1 hF.2.1 dX12_isSignOf_31 (by decide) ?_
            refine lv_icmp_eq (tgt := 48) hF.1 hF.2.1 dX12_isSignOf_33 (by decide) (fun c33_6 => ?_) (fun c33_6 => ?_)
            · refine lv_iconst (v := 1) hF.1 hF.2.1 dX12_isSignOf_48 (by decide) ?_
              refine lv_goto (tgt := 53) hF.1 hF.2.1 dX12_isSignOf_49 (by decide) ?_
              exact q_iret hF hr (by decide) hlocks hU hS dX12_isSignOf_53 ⟨rfl, (g_X12_isSignOf_v5 x c3_1 c9_2 c15_3 c21_4 c27_5 c33_6)⟩
            · refine lv_iload_n hF.1 hF.2.1 dX12_isSignOf_36 rfl (lv_at hl 0 rfl) ?_
              refine lv_bipush (v := 45) hF.1 hF.2.1 dX12_isSignOf_37 (by decide) ?_
              refine lv_icmp_eq (tgt := 48) hF.1 hF.2.1 dX12_isSignOf_39 (by decide) (fun c39_7 => ?_) (fun c39_7 => ?_)
              · refine lv_iconst (v := 1) hF.1 hF.2.1 dX12_isSignOf_48 (by decide) ?_
                refine lv_goto (tgt := 53) hF.1 hF.2.1 dX12_isSignOf_49 (by decide) ?_
                exact q_iret hF hr (by decide) hlocks hU hS dX12_isSignOf_53 ⟨rfl, (g_X12_isSignOf_v6 x c3_1 c9_2 c15_3 c21_4 c27_5 c33_6 c39_7)⟩
              · refine lv_iload_n hF.1 hF.2.1 dX12_isSignOf_42 rfl (lv_at hl 0 rfl) ?_
                refine lv_bipush (v := 42) hF.1 hF.2.1 dX12_isSignOf_43 (by decide) ?_
                refine lv_icmp_ne (tgt := 52) hF.1 hF.2.1 dX12_isSignOf_45 (by decide) (fun c45_8 => ?_) (fun c45_8 => ?_)
                · refine lv_iconst (v := 0) hF.1 hF.2.1 dX12_isSignOf_52 (by decide) ?_
                  exact q_iret hF hr (by decide) hlocks hU hS dX12_isSignOf_53 ⟨rfl, (g_X12_isSignOf_v7 x c3_1 c9_2 c15_3 c21_4 c27_5 c33_6 c39_7 c45_8)⟩
                · refine lv_iconst (v := 1) hF.1 hF.2.1 dX12_isSignOf_48 (by decide) ?_
                  refine lv_goto (tgt := 53) hF.1 hF.2.1 dX12_isSignOf_49 (by decide) ?_
                  exact q_iret hF hr (by decide) hlocks hU hS dX12_isSignOf_53 ⟨rfl, (g_X12_isSignOf_v8 x c3_1 c9_2 c15_3 c21_4 c27_5 c33_6 c39_7 c45_8)⟩
set_option maxHeartbeats 1000000 in
set_option maxRecDepth 100000 in
theorem g_X12_wayBetween (l : Launch) (E : qE) (A : Nat → Prop) (u : qS) (x : Int32) (y : Int32) (v : Int32) (w : Int32) : Met l yX12_wayBetween (uws yX12_wayBetween cX12_wayBetween 4 (some .int)) (qR 0 0 0) (qPc E A 1 u [.int x, .int y, .int v, .int w]) (qQi E A 1 (fun r u1 => u1 = u ∧ (True))) 0 0 A := by
  refine q_met (own := RX12) (f := 0) [.int x, .int y, .int v, .int w] (by decide) (Nat.le_of_ble_eq_true rfl) rfl ?_
  intro p0 e0 s0 m0 bl0 me0 cd0 ls hF hr hlocks hU hS hA hl
  have hl : lv_has ls 4 [(0, .int x), (1, .int y), (2, .int v), (3, .int w)] := hl
  refine lv_iload_n hF.1 hF.2.1 dX12_wayBetween_0 rfl (lv_at hl 0 rfl) ?_
  refine lv_iload_n hF.1 hF.2.1 dX12_wayBetween_1 rfl (lv_at hl 2 rfl) ?_
  refine lv_icmp_ge (tgt := 11) hF.1 hF.2.1 dX12_wayBetween_2 (by decide) (fun c2_1 => ?_) (fun c2_1 => ?_)
  · refine lv_iload_n hF.1 hF.2.1 dX12_wayBetween_11 rfl (lv_at hl 0 rfl) ?_
    refine lv_iload_n hF.1 hF.2.1 dX12_wayBetween_12 rfl (lv_at hl 2 rfl) ?_
    refine lv_isub hF.1 hF.2.1 dX12_wayBetween_13 ?_
    refine lv_iload_n hF.1 hF.2.1 dX12_wayBetween_14 rfl (lv_at hl 1 rfl) ?_
    refine lv_iload_n hF.1 hF.2.1 dX12_wayBetween_15 rfl (lv_at hl 3 rfl) ?_
    refine lv_icmp_ge (tgt := 25) hF.1 hF.2.1 dX12_wayBetween_16 (by decide) (fun c16_2 => ?_) (fun c16_2 => ?_)
    · refine lv_iload_n hF.1 hF.2.1 dX12_wayBetween_25 rfl (lv_at hl 1 rfl) ?_
      refine lv_iload_n hF.1 hF.2.1 dX12_wayBetween_26 rfl (lv_at hl 3 rfl) ?_
      refine lv_isub hF.1 hF.2.1 dX12_wayBetween_27 ?_
      refine lv_iadd hF.1 hF.2.1 dX12_wayBetween_28 ?_
      exact q_iret hF hr rfl hlocks hU hS dX12_wayBetween_29 ⟨rfl, trivial⟩
    · refine lv_iload_n hF.1 hF.2.1 dX12_wayBetween_19 rfl (lv_at hl 3 rfl) ?_
      refine lv_iload_n hF.1 hF.2.1 dX12_wayBetween_20 rfl (lv_at hl 1 rfl) ?_
      refine lv_isub hF.1 hF.2.1 dX12_wayBetween_21 ?_
      refine lv_goto (tgt := 28) hF.1 hF.2.1 dX12_wayBetween_22 (by decide) ?_
      refine lv_iadd hF.1 hF.2.1 dX12_wayBetween_28 ?_
      exact q_iret hF hr rfl hlocks hU hS dX12_wayBetween_29 ⟨rfl, trivial⟩
  · refine lv_iload_n hF.1 hF.2.1 dX12_wayBetween_5 rfl (lv_at hl 2 rfl) ?_
    refine lv_iload_n hF.1 hF.2.1 dX12_wayBetween_6 rfl (lv_at hl 0 rfl) ?_
    refine lv_isub hF.1 hF.2.1 dX12_wayBetween_7 ?_
    refine lv_goto (tgt := 14) hF.1 hF.2.1 dX12_wayBetween_8 (by decide) ?_
    refine lv_iload_n hF.1 hF.2.1 dX12_wayBetween_14 rfl (lv_at hl 1 rfl) ?_
    refine lv_iload_n hF.1 hF.2.1 dX12_wayBetween_15 rfl (lv_at hl 3 rfl) ?_
    refine lv_icmp_ge (tgt := 25) hF.1 hF.2.1 dX12_wayBetween_16 (by decide) (fun c16_3 => ?_) (fun c16_3 => ?_)
    · refine lv_iload_n hF.1 hF.2.1 dX12_wayBetween_25 rfl (lv_at hl 1 rfl) ?_
      refine lv_iload_n hF.1 hF.2.1 dX12_wayBetween_26 rfl (lv_at hl 3 rfl) ?_
      refine lv_isub hF.1 hF.2.1 dX12_wayBetween_27 ?_
      refine lv_iadd hF.1 hF.2.1 dX12_wayBetween_28 ?_
      exact q_iret hF hr rfl hlocks hU hS dX12_wayBetween_29 ⟨rfl, trivial⟩
    · refine lv_iload_n hF.1 hF.2.1 dX12_wayBetween_19 rfl (lv_at hl 3 rfl) ?_
      refine lv_iload_n hF.1 hF.2.1 dX12_wayBetween_20 rfl (lv_at hl 1 rfl) ?_
      refine lv_isub hF.1 hF.2.1 dX12_wayBetween_21 ?_
      refine lv_goto (tgt := 28) hF.1 hF.2.1 dX12_wayBetween_22 (by decide) ?_
      refine lv_iadd hF.1 hF.2.1 dX12_wayBetween_28 ?_
      exact q_iret hF hr rfl hlocks hU hS dX12_wayBetween_29 ⟨rfl, trivial⟩
set_option maxRecDepth 100000 in
theorem g_X12_isFirst_v0 (x : Int32) (y : Int32) (c10_1 : ((x &&& (x ^^^ y)) &&& (-(x ^^^ y)) : Int32) = 0) : (0 : Int32) = 1 ∨ (0 : Int32) = 0 := by
  first | omega | ((try simp only [Int32.lt_iff_toInt_lt, Int32.le_iff_toInt_le, ← Int32.toInt_inj, Int32.toInt_add, Int32.toInt_sub, Int32.toInt_mul, Int32.toInt_neg, Int32.reduceToInt, g_bm, g_bm'] at *); omega) | (simp only [Int32.lt_iff_toInt_lt, Int32.le_iff_toInt_le, ← Int32.toInt_inj, Int32.toInt_add, Int32.toInt_sub, Int32.toInt_mul, Int32.toInt_neg, Int32.reduceToInt, g_bm, g_bm'] at *; simp at *; omega) | (simp_all; done)
set_option maxRecDepth 100000 in
theorem g_X12_isFirst_v1 (x : Int32) (y : Int32) (c10_1 : ¬ ((x &&& (x ^^^ y)) &&& (-(x ^^^ y)) : Int32) = 0) : (1 : Int32) = 1 ∨ (1 : Int32) = 0 := by
  first | omega | ((try simp only [Int32.lt_iff_toInt_lt, Int32.le_iff_toInt_le, ← Int32.toInt_inj, Int32.toInt_add, Int32.toInt_sub, Int32.toInt_mul, Int32.toInt_neg, Int32.reduceToInt, g_bm, g_bm'] at *); omega) | (simp only [Int32.lt_iff_toInt_lt, Int32.le_iff_toInt_le, ← Int32.toInt_inj, Int32.toInt_add, Int32.toInt_sub, Int32.toInt_mul, Int32.toInt_neg, Int32.reduceToInt, g_bm, g_bm'] at *; simp at *; omega) | (simp_all; done)
set_option maxHeartbeats 1000000 in
set_option maxRecDepth 100000 in
theorem g_X12_isFirst (l : Launch) (E : qE) (A : Nat → Prop) (u : qS) (x : Int32) (y : Int32) : Met l yX12_isFirst (uws yX12_isFirst cX12_isFirst 3 (some .boolean)) (qR 0 0 0) (qPc E A 1 u [.int x, .int y]) (qQi E A 1 (fun r u1 => u1 = u ∧ (r = 1 ∨ r = 0))) 0 0 A := by
  refine q_met (own := RX12) (f := 0) [.int x, .int y] (by decide) (Nat.le_of_ble_eq_true rfl) rfl ?_
  intro p0 e0 s0 m0 bl0 me0 cd0 ls hF hr hlocks hU hS hA hl
  have hl : lv_has ls 3 [(0, .int x), (1, .int y)] := hl
  refine lv_iload_n hF.1 hF.2.1 dX12_isFirst_0 rfl (lv_at hl 0 rfl) ?_
  refine lv_iload_n hF.1 hF.2.1 dX12_isFirst_1 rfl (lv_at hl 1 rfl) ?_
  refine lv_ixor hF.1 hF.2.1 dX12_isFirst_2 ?_
  refine lv_istore_n (lv' := [(2, .int (x ^^^ y)), (0, .int x), (1, .int y)]) hF.1 hF.2.1 dX12_isFirst_3 rfl hl (by decide) rfl (fun ls hl => ?_)
  refine lv_iload_n hF.1 hF.2.1 dX12_isFirst_4 rfl (lv_at hl 1 rfl) ?_
  refine lv_iload_n hF.1 hF.2.1 dX12_isFirst_5 rfl (lv_at hl 0 rfl) ?_
  refine lv_iand hF.1 hF.2.1 dX12_isFirst_6 ?_
  refine lv_iload_n hF.1 hF.2.1 dX12_isFirst_7 rfl (lv_at hl 0 rfl) ?_
  refine lv_ineg hF.1 hF.2.1 dX12_isFirst_8 ?_
  refine lv_iand hF.1 hF.2.1 dX12_isFirst_9 ?_
  refine lv_if_eq (tgt := 17) hF.1 hF.2.1 dX12_isFirst_10 (by decide) (fun c10_1 => ?_) (fun c10_1 => ?_)
  · refine lv_iconst (v := 0) hF.1 hF.2.1 dX12_isFirst_17 (by decide) ?_
    exact q_iret hF hr (by decide) hlocks hU hS dX12_isFirst_18 ⟨rfl, (g_X12_isFirst_v0 x y c10_1)⟩
  · refine lv_iconst (v := 1) hF.1 hF.2.1 dX12_isFirst_13 (by decide) ?_
    refine lv_goto (tgt := 18) hF.1 hF.2.1 dX12_isFirst_14 (by decide) ?_
    exact q_iret hF hr (by decide) hlocks hU hS dX12_isFirst_18 ⟨rfl, (g_X12_isFirst_v1 x y c10_1)⟩
set_option maxRecDepth 100000 in
theorem g_X12_bits_v0 (x2 : Int32) (h_k : 0 ≤ x2) (c7_1 : ¬ 20 ≤ (x2 : Int32)) : 0 ≤ (x2 + 1) := by
  first | omega | ((try simp only [Int32.lt_iff_toInt_lt, Int32.le_iff_toInt_le, ← Int32.toInt_inj, Int32.toInt_add, Int32.toInt_sub, Int32.toInt_mul, Int32.toInt_neg, Int32.reduceToInt, g_bm, g_bm'] at *); omega) | (simp only [Int32.lt_iff_toInt_lt, Int32.le_iff_toInt_le, ← Int32.toInt_inj, Int32.toInt_add, Int32.toInt_sub, Int32.toInt_mul, Int32.toInt_neg, Int32.reduceToInt, g_bm, g_bm'] at *; simp at *; omega) | (simp_all; done)
set_option maxRecDepth 100000 in
theorem g_X12_bits_v1 (x2 : Int32) (h_k : 0 ≤ x2) (c7_1 : ¬ 20 ≤ (x2 : Int32)) : (((20 : Int32)).toInt - (x2 + 1).toInt).toNat < (((20 : Int32)).toInt - x2.toInt).toNat := by
  first | omega | ((try simp only [Int32.lt_iff_toInt_lt, Int32.le_iff_toInt_le, ← Int32.toInt_inj, Int32.toInt_add, Int32.toInt_sub, Int32.toInt_mul, Int32.toInt_neg, Int32.reduceToInt, g_bm, g_bm'] at *); omega) | (simp only [Int32.lt_iff_toInt_lt, Int32.le_iff_toInt_le, ← Int32.toInt_inj, Int32.toInt_add, Int32.toInt_sub, Int32.toInt_mul, Int32.toInt_neg, Int32.reduceToInt, g_bm, g_bm'] at *; simp at *; omega) | (simp_all; done)
set_option maxRecDepth 100000 in
theorem g_X12_bits_v2 : 0 ≤ (0 : Int32) := by
  first | omega | ((try simp only [Int32.lt_iff_toInt_lt, Int32.le_iff_toInt_le, ← Int32.toInt_inj, Int32.toInt_add, Int32.toInt_sub, Int32.toInt_mul, Int32.toInt_neg, Int32.reduceToInt, g_bm, g_bm'] at *); omega) | (simp only [Int32.lt_iff_toInt_lt, Int32.le_iff_toInt_le, ← Int32.toInt_inj, Int32.toInt_add, Int32.toInt_sub, Int32.toInt_mul, Int32.toInt_neg, Int32.reduceToInt, g_bm, g_bm'] at *; simp at *; omega) | (simp_all; done)
set_option maxHeartbeats 1000000 in
set_option maxRecDepth 100000 in
theorem g_X12_bits (l : Launch) (E : qE) (A : Nat → Prop) (u : qS) (x : Int32) : Met l yX12_bits (uws yX12_bits cX12_bits 3 (some .int)) (qR 0 0 0) (qPc E A 1 u [.int x]) (qQi E A 1 (fun r u1 => u1 = u ∧ (True))) 0 0 A := by
  refine q_met (own := RX12) (f := 0) [.int x] (by decide) (Nat.le_of_ble_eq_true rfl) rfl ?_
  intro p0 e0 s0 m0 bl0 me0 cd0 ls hF hr hlocks hU hS hA hl
  have hl : lv_has ls 3 [(0, .int x)] := hl
  have main : ∀ n : Nat, (∀ (x1 : Int32) (x2 : Int32) (uc : qS) (H : Heap) (locs : List Loc) (ls : Array Slot) (huc : u = uc) (h_k : 0 ≤ x2), (((20 : Int32)).toInt - x2.toInt).toNat < n → qH E A 1 uc s0 H → va_S A s0.heap H locs → lv_has ls 3 [(0, .int x), (1, .int x1), (2, .int x2)] → W p0 l e0 (qR 0 0 0) s0 m0 ([.int x] : List Value).toArray bl0 me0 cd0 H locs 0 0 (MQ bl0 (qQi E A 1 (fun r u1 => u1 = u ∧ (True))) ([.int x] : List Value).toArray s0 0 0 A) (F0 m0 4 ls [])) := by
    intro n
    induction n with
    | zero => exact fun _ _ _ _ _ _ _ _ hmu => absurd hmu (Nat.not_lt_zero _)
    | succ n ih =>
      intro x1 x2 uc H locs ls huc h_k hmu hU hS hl
      subst huc
      refine lv_iload_n hF.1 hF.2.1 dX12_bits_4 rfl (lv_at hl 2 rfl) ?_
      refine lv_bipush (v := 20) hF.1 hF.2.1 dX12_bits_5 (by decide) ?_
      refine lv_icmp_ge (tgt := 24) hF.1 hF.2.1 dX12_bits_7 (by decide) (fun c7_1 => ?_) (fun c7_1 => ?_)
      · refine lv_iload_n hF.1 hF.2.1 dX12_bits_24 rfl (lv_at hl 1 rfl) ?_
        exact q_iret hF hr rfl hlocks hU hS dX12_bits_25 ⟨rfl, trivial⟩
      · refine lv_iload_n hF.1 hF.2.1 dX12_bits_10 rfl (lv_at hl 1 rfl) ?_
        refine lv_iload_n hF.1 hF.2.1 dX12_bits_11 rfl (lv_at hl 0 rfl) ?_
        refine lv_iload_n hF.1 hF.2.1 dX12_bits_12 rfl (lv_at hl 2 rfl) ?_
        refine lv_ishr hF.1 hF.2.1 dX12_bits_13 ?_
        refine lv_iconst (v := 1) hF.1 hF.2.1 dX12_bits_14 (by decide) ?_
        refine lv_iand hF.1 hF.2.1 dX12_bits_15 ?_
        refine lv_iadd hF.1 hF.2.1 dX12_bits_16 ?_
        refine lv_istore_n (lv' := [(1, .int (x1 + ((x >>> (x2 &&& 31)) &&& 1))), (0, .int x), (2, .int x2)]) hF.1 hF.2.1 dX12_bits_17 rfl hl (by decide) rfl (fun ls hl => ?_)
        refine lv_iinc (v := x2 + 1) (lv' := [(2, .int (x2 + 1)), (1, .int (x1 + ((x >>> (x2 &&& 31)) &&& 1))), (0, .int x)]) hF.1 hF.2.1 dX12_bits_18 hl (k := 2) rfl rfl (by decide) rfl (fun ls hl => ?_)
        refine lv_goto (tgt := 4) hF.1 hF.2.1 dX12_bits_21 (by decide) ?_
        exact ih (x1 + ((x >>> (x2 &&& 31)) &&& 1)) (x2 + 1) u _ _ _ rfl (g_X12_bits_v0 x2 h_k c7_1) (Nat.lt_of_lt_of_le (g_X12_bits_v1 x2 h_k c7_1) (Nat.lt_succ_iff.mp hmu)) hU hS (lv_sub hl [2, 1, 0] rfl)
  refine lv_iconst (v := 0) hF.1 hF.2.1 dX12_bits_0 (by decide) ?_
  refine lv_istore_n (lv' := [(1, .int 0), (0, .int x)]) hF.1 hF.2.1 dX12_bits_1 rfl hl (by decide) rfl (fun ls hl => ?_)
  refine lv_iconst (v := 0) hF.1 hF.2.1 dX12_bits_2 (by decide) ?_
  refine lv_istore_n (lv' := [(2, .int 0), (1, .int 0), (0, .int x)]) hF.1 hF.2.1 dX12_bits_3 rfl hl (by decide) rfl (fun ls hl => ?_)
  exact (main _) (0 : Int32) (0 : Int32) u _ _ _ rfl (g_X12_bits_v2) (Nat.lt_succ_self _) hU hS (lv_sub hl [2, 1, 0] rfl)
set_option maxHeartbeats 1000000 in
set_option maxRecDepth 100000 in
theorem g_X12_viewDay (l : Launch) (E : qE) (A : Nat → Prop) (u : qS) : Met l yX12_viewDay (uws yX12_viewDay cX12_viewDay 1 (some .int)) (qR 0 0 0) (qPc E A 1 u [.ref (E.2.2 1299)]) (qQi E A 1 (fun r u1 => u1 = u ∧ (True))) 0 0 A := by
  refine q_met (own := RX12) (f := 0) [.ref (E.2.2 1299)] (by decide) (Nat.le_of_ble_eq_true rfl) rfl ?_
  intro p0 e0 s0 m0 bl0 me0 cd0 ls hF hr hlocks hU hS hA hl
  have hl : lv_has ls 1 [(0, .ref (E.2.2 1299))] := hl
  refine lv_aload_n hF.1 hF.2.1 dX12_viewDay_0 rfl (lv_at hl 0 rfl) ?_
  refine q_get (v := .int (u.1 1231)) hF hU dX12_viewDay_1 0 12 31 1231 1299 rfl rfl rfl rfl inX12 (by decide) (by decide) w_1363 rfl rfl ?_
  refine lv_if_ge (tgt := 14) hF.1 hF.2.1 dX12_viewDay_4 (by decide) (fun c4_1 => ?_) (fun c4_1 => ?_)
  · refine lv_aload_n hF.1 hF.2.1 dX12_viewDay_14 rfl (lv_at hl 0 rfl) ?_
    refine q_get (v := .int (u.1 1231)) hF hU dX12_viewDay_15 0 12 31 1231 1299 rfl rfl rfl rfl inX12 (by decide) (by decide) w_1363 rfl rfl ?_
    exact q_iret hF hr rfl hlocks hU hS dX12_viewDay_18 ⟨rfl, trivial⟩
  · refine lv_aload_n hF.1 hF.2.1 dX12_viewDay_7 rfl (lv_at hl 0 rfl) ?_
    refine q_get (v := .int (u.1 1230)) hF hU dX12_viewDay_8 0 12 30 1230 1299 rfl rfl rfl rfl inX12 (by decide) (by decide) w_1362 rfl rfl ?_
    refine lv_goto (tgt := 18) hF.1 hF.2.1 dX12_viewDay_11 (by decide) ?_
    exact q_iret hF hr rfl hlocks hU hS dX12_viewDay_18 ⟨rfl, trivial⟩
set_option maxRecDepth 100000 in
theorem g_X12_isShop_v0 (u : qS) (x : Int32) (c1_1 : (x : Int32) < 0) : (0 = (1 : Int32) ∧ (0 ≤ x ∧ x < u.1 1232)) ∨ (0 = (0 : Int32) ∧ ¬ (0 ≤ x ∧ x < u.1 1232)) := by
  first | omega | ((try simp only [Int32.lt_iff_toInt_lt, Int32.le_iff_toInt_le, ← Int32.toInt_inj, Int32.toInt_add, Int32.toInt_sub, Int32.toInt_mul, Int32.toInt_neg, Int32.reduceToInt, g_bm, g_bm'] at *); omega) | (simp only [Int32.lt_iff_toInt_lt, Int32.le_iff_toInt_le, ← Int32.toInt_inj, Int32.toInt_add, Int32.toInt_sub, Int32.toInt_mul, Int32.toInt_neg, Int32.reduceToInt, g_bm, g_bm'] at *; simp at *; omega) | (simp_all; done)
set_option maxRecDepth 100000 in
theorem g_X12_isShop_v1 (u : qS) (x : Int32) (c1_1 : ¬ (x : Int32) < 0) (c9_2 : (u.1 1232) ≤ (x : Int32)) : (0 = (1 : Int32) ∧ (0 ≤ x ∧ x < u.1 1232)) ∨ (0 = (0 : Int32) ∧ ¬ (0 ≤ x ∧ x < u.1 1232)) := by
  first | omega | ((try simp only [Int32.lt_iff_toInt_lt, Int32.le_iff_toInt_le, ← Int32.toInt_inj, Int32.toInt_add, Int32.toInt_sub, Int32.toInt_mul, Int32.toInt_neg, Int32.reduceToInt, g_bm, g_bm'] at *); omega) | (simp only [Int32.lt_iff_toInt_lt, Int32.le_iff_toInt_le, ← Int32.toInt_inj, Int32.toInt_add, Int32.toInt_sub, Int32.toInt_mul, Int32.toInt_neg, Int32.reduceToInt, g_bm, g_bm'] at *; simp at *; omega) | (simp_all; done)
set_option maxRecDepth 100000 in
theorem g_X12_isShop_v2 (u : qS) (x : Int32) (c1_1 : ¬ (x : Int32) < 0) (c9_2 : ¬ (u.1 1232) ≤ (x : Int32)) : (1 = (1 : Int32) ∧ (0 ≤ x ∧ x < u.1 1232)) ∨ (1 = (0 : Int32) ∧ ¬ (0 ≤ x ∧ x < u.1 1232)) := by
  first | omega | ((try simp only [Int32.lt_iff_toInt_lt, Int32.le_iff_toInt_le, ← Int32.toInt_inj, Int32.toInt_add, Int32.toInt_sub, Int32.toInt_mul, Int32.toInt_neg, Int32.reduceToInt, g_bm, g_bm'] at *); omega) | (simp only [Int32.lt_iff_toInt_lt, Int32.le_iff_toInt_le, ← Int32.toInt_inj, Int32.toInt_add, Int32.toInt_sub, Int32.toInt_mul, Int32.toInt_neg, Int32.reduceToInt, g_bm, g_bm'] at *; simp at *; omega) | (simp_all; done)
set_option maxHeartbeats 1000000 in
set_option maxRecDepth 100000 in
theorem g_X12_isShop (l : Launch) (E : qE) (A : Nat → Prop) (u : qS) (x : Int32) : Met l yX12_isShop (uws yX12_isShop cX12_isShop 2 (some .boolean)) (qR 0 0 0) (qPc E A 1 u [.ref (E.2.2 1299), .int x]) (qQi E A 1 (fun r u1 => u1 = u ∧ ((r = 1 ∧ (0 ≤ x ∧ x < u.1 1232)) ∨ (r = 0 ∧ ¬ (0 ≤ x ∧ x < u.1 1232))))) 0 0 A := by
  refine q_met (own := RX12) (f := 0) [.ref (E.2.2 1299), .int x] (by decide) (Nat.le_of_ble_eq_true rfl) rfl ?_
  intro p0 e0 s0 m0 bl0 me0 cd0 ls hF hr hlocks hU hS hA hl
  have hl : lv_has ls 2 [(0, .ref (E.2.2 1299)), (1, .int x)] := hl
  refine lv_iload_n hF.1 hF.2.1 dX12_isShop_0 rfl (lv_at hl 1 rfl) ?_
  refine lv_if_lt (tgt := 16) hF.1 hF.2.1 dX12_isShop_1 (by decide) (fun c1_1 => ?_) (fun c1_1 => ?_)
  · refine lv_iconst (v := 0) hF.1 hF.2.1 dX12_isShop_16 (by decide) ?_
    exact q_iret hF hr (by decide) hlocks hU hS dX12_isShop_17 ⟨rfl, (g_X12_isShop_v0 u x c1_1)⟩
  · refine lv_iload_n hF.1 hF.2.1 dX12_isShop_4 rfl (lv_at hl 1 rfl) ?_
    refine lv_aload_n hF.1 hF.2.1 dX12_isShop_5 rfl (lv_at hl 0 rfl) ?_
    refine q_get (v := .int (u.1 1232)) hF hU dX12_isShop_6 0 12 32 1232 1299 rfl rfl rfl rfl inX12 (by decide) (by decide) w_1364 rfl rfl ?_
    refine lv_icmp_ge (tgt := 16) hF.1 hF.2.1 dX12_isShop_9 (by decide) (fun c9_2 => ?_) (fun c9_2 => ?_)
    · refine lv_iconst (v := 0) hF.1 hF.2.1 dX12_isShop_16 (by decide) ?_
      exact q_iret hF hr (by decide) hlocks hU hS dX12_isShop_17 ⟨rfl, (g_X12_isShop_v1 u x c1_1 c9_2)⟩
    · refine lv_iconst (v := 1) hF.1 hF.2.1 dX12_isShop_12 (by decide) ?_
      refine lv_goto (tgt := 17) hF.1 hF.2.1 dX12_isShop_13 (by decide) ?_
      exact q_iret hF hr (by decide) hlocks hU hS dX12_isShop_17 ⟨rfl, (g_X12_isShop_v2 u x c1_1 c9_2)⟩
set_option maxRecDepth 100000 in
theorem g_X12_isBuyer_v0 (u : qS) (x : Int32) (c1_1 : (x : Int32) < 0) : (0 = (1 : Int32) ∧ (0 ≤ x ∧ x < u.1 1239)) ∨ (0 = (0 : Int32) ∧ ¬ (0 ≤ x ∧ x < u.1 1239)) := by
  first | omega | ((try simp only [Int32.lt_iff_toInt_lt, Int32.le_iff_toInt_le, ← Int32.toInt_inj, Int32.toInt_add, Int32.toInt_sub, Int32.toInt_mul, Int32.toInt_neg, Int32.reduceToInt, g_bm, g_bm'] at *); omega) | (simp only [Int32.lt_iff_toInt_lt, Int32.le_iff_toInt_le, ← Int32.toInt_inj, Int32.toInt_add, Int32.toInt_sub, Int32.toInt_mul, Int32.toInt_neg, Int32.reduceToInt, g_bm, g_bm'] at *; simp at *; omega) | (simp_all; done)
set_option maxRecDepth 100000 in
theorem g_X12_isBuyer_v1 (u : qS) (x : Int32) (c1_1 : ¬ (x : Int32) < 0) (c9_2 : (u.1 1239) ≤ (x : Int32)) : (0 = (1 : Int32) ∧ (0 ≤ x ∧ x < u.1 1239)) ∨ (0 = (0 : Int32) ∧ ¬ (0 ≤ x ∧ x < u.1 1239)) := by
  first | omega | ((try simp only [Int32.lt_iff_toInt_lt, Int32.le_iff_toInt_le, ← Int32.toInt_inj, Int32.toInt_add, Int32.toInt_sub, Int32.toInt_mul, Int32.toInt_neg, Int32.reduceToInt, g_bm, g_bm'] at *); omega) | (simp only [Int32.lt_iff_toInt_lt, Int32.le_iff_toInt_le, ← Int32.toInt_inj, Int32.toInt_add, Int32.toInt_sub, Int32.toInt_mul, Int32.toInt_neg, Int32.reduceToInt, g_bm, g_bm'] at *; simp at *; omega) | (simp_all; done)
set_option maxRecDepth 100000 in
theorem g_X12_isBuyer_v2 (u : qS) (x : Int32) (c1_1 : ¬ (x : Int32) < 0) (c9_2 : ¬ (u.1 1239) ≤ (x : Int32)) : (1 = (1 : Int32) ∧ (0 ≤ x ∧ x < u.1 1239)) ∨ (1 = (0 : Int32) ∧ ¬ (0 ≤ x ∧ x < u.1 1239)) := by
  first | omega | ((try simp only [Int32.lt_iff_toInt_lt, Int32.le_iff_toInt_le, ← Int32.toInt_inj, Int32.toInt_add, Int32.toInt_sub, Int32.toInt_mul, Int32.toInt_neg, Int32.reduceToInt, g_bm, g_bm'] at *); omega) | (simp only [Int32.lt_iff_toInt_lt, Int32.le_iff_toInt_le, ← Int32.toInt_inj, Int32.toInt_add, Int32.toInt_sub, Int32.toInt_mul, Int32.toInt_neg, Int32.reduceToInt, g_bm, g_bm'] at *; simp at *; omega) | (simp_all; done)
set_option maxHeartbeats 1000000 in
set_option maxRecDepth 100000 in
theorem g_X12_isBuyer (l : Launch) (E : qE) (A : Nat → Prop) (u : qS) (x : Int32) : Met l yX12_isBuyer (uws yX12_isBuyer cX12_isBuyer 2 (some .boolean)) (qR 0 0 0) (qPc E A 1 u [.ref (E.2.2 1299), .int x]) (qQi E A 1 (fun r u1 => u1 = u ∧ ((r = 1 ∧ (0 ≤ x ∧ x < u.1 1239)) ∨ (r = 0 ∧ ¬ (0 ≤ x ∧ x < u.1 1239))))) 0 0 A := by
  refine q_met (own := RX12) (f := 0) [.ref (E.2.2 1299), .int x] (by decide) (Nat.le_of_ble_eq_true rfl) rfl ?_
  intro p0 e0 s0 m0 bl0 me0 cd0 ls hF hr hlocks hU hS hA hl
  have hl : lv_has ls 2 [(0, .ref (E.2.2 1299)), (1, .int x)] := hl
  refine lv_iload_n hF.1 hF.2.1 dX12_isBuyer_0 rfl (lv_at hl 1 rfl) ?_
  refine lv_if_lt (tgt := 16) hF.1 hF.2.1 dX12_isBuyer_1 (by decide) (fun c1_1 => ?_) (fun c1_1 => ?_)
  · refine lv_iconst (v := 0) hF.1 hF.2.1 dX12_isBuyer_16 (by decide) ?_
    exact q_iret hF hr (by decide) hlocks hU hS dX12_isBuyer_17 ⟨rfl, (g_X12_isBuyer_v0 u x c1_1)⟩
  · refine lv_iload_n hF.1 hF.2.1 dX12_isBuyer_4 rfl (lv_at hl 1 rfl) ?_
    refine lv_aload_n hF.1 hF.2.1 dX12_isBuyer_5 rfl (lv_at hl 0 rfl) ?_
    refine q_get (v := .int (u.1 1239)) hF hU dX12_isBuyer_6 0 12 39 1239 1299 rfl rfl rfl rfl inX12 (by decide) (by decide) w_1371 rfl rfl ?_
    refine lv_icmp_ge (tgt := 16) hF.1 hF.2.1 dX12_isBuyer_9 (by decide) (fun c9_2 => ?_) (fun c9_2 => ?_)
    · refine lv_iconst (v := 0) hF.1 hF.2.1 dX12_isBuyer_16 (by decide) ?_
      exact q_iret hF hr (by decide) hlocks hU hS dX12_isBuyer_17 ⟨rfl, (g_X12_isBuyer_v1 u x c1_1 c9_2)⟩
    · refine lv_iconst (v := 1) hF.1 hF.2.1 dX12_isBuyer_12 (by decide) ?_
      refine lv_goto (tgt := 17) hF.1 hF.2.1 dX12_isBuyer_13 (by decide) ?_
      exact q_iret hF hr (by decide) hlocks hU hS dX12_isBuyer_17 ⟨rfl, (g_X12_isBuyer_v2 u x c1_1 c9_2)⟩
set_option maxRecDepth 100000 in
theorem g_X12_isSeen_v0 (u : qS) (x : Int32) (hI : IM u) (c1_1 : (x : Int32) < 0) : (0 = (1 : Int32) ∧ (0 ≤ x ∧ x < u.1 1247)) ∨ 0 = (0 : Int32) := by
  have hz1247 := hI.1.s1247
  first | omega | ((try simp only [Int32.lt_iff_toInt_lt, Int32.le_iff_toInt_le, ← Int32.toInt_inj, Int32.toInt_add, Int32.toInt_sub, Int32.toInt_mul, Int32.toInt_neg, Int32.reduceToInt, g_bm, g_bm'] at *); omega) | (simp only [Int32.lt_iff_toInt_lt, Int32.le_iff_toInt_le, ← Int32.toInt_inj, Int32.toInt_add, Int32.toInt_sub, Int32.toInt_mul, Int32.toInt_neg, Int32.reduceToInt, g_bm, g_bm'] at *; simp at *; omega) | (simp_all; done)
set_option maxRecDepth 100000 in
theorem g_X12_isSeen_v1 (u : qS) (x : Int32) (hI : IM u) (c1_1 : ¬ (x : Int32) < 0) (hs_2 : 0 ≤ u.1 1247 ∧ u.1 1247 ≤ 120) (c9_3 : (u.1 1247) ≤ (x : Int32)) : (0 = (1 : Int32) ∧ (0 ≤ x ∧ x < u.1 1247)) ∨ 0 = (0 : Int32) := by
  first | omega | ((try simp only [Int32.lt_iff_toInt_lt, Int32.le_iff_toInt_le, ← Int32.toInt_inj, Int32.toInt_add, Int32.toInt_sub, Int32.toInt_mul, Int32.toInt_neg, Int32.reduceToInt, g_bm, g_bm'] at *); omega) | (simp only [Int32.lt_iff_toInt_lt, Int32.le_iff_toInt_le, ← Int32.toInt_inj, Int32.toInt_add, Int32.toInt_sub, Int32.toInt_mul, Int32.toInt_neg, Int32.reduceToInt, g_bm, g_bm'] at *; simp at *; omega) | (simp_all; done)
set_option maxRecDepth 100000 in
theorem g_X12_isSeen_v2 (u : qS) (x : Int32) (hI : IM u) (c1_1 : ¬ (x : Int32) < 0) (hs_2 : 0 ≤ u.1 1247 ∧ u.1 1247 ≤ 120) (c9_3 : ¬ (u.1 1247) ≤ (x : Int32)) : vp_in (x) 120 := by
  refine g_in ?_ ?_ <;> ((try simp only [Int32.lt_iff_toInt_lt, Int32.le_iff_toInt_le, ← Int32.toInt_inj, Int32.toInt_add, Int32.toInt_sub, Int32.toInt_mul, Int32.toInt_neg, Int32.reduceToInt, g_bm, g_bm'] at *); omega)
set_option maxRecDepth 100000 in
theorem g_X12_isSeen_v3 (u : qS) (x : Int32) (r_6 : Int32) (hI : IM u) (c1_1 : ¬ (x : Int32) < 0) (hs_2 : 0 ≤ u.1 1247 ∧ u.1 1247 ≤ 120) (c9_3 : ¬ (u.1 1247) ≤ (x : Int32)) (c22_7 : r_6 < (u.2.1 1255 (x : Int32).toNatClampNeg : Int32)) : (0 = (1 : Int32) ∧ (0 ≤ x ∧ x < u.1 1247)) ∨ 0 = (0 : Int32) := by
  first | omega | ((try simp only [Int32.lt_iff_toInt_lt, Int32.le_iff_toInt_le, ← Int32.toInt_inj, Int32.toInt_add, Int32.toInt_sub, Int32.toInt_mul, Int32.toInt_neg, Int32.reduceToInt, g_bm, g_bm'] at *); omega) | (simp only [Int32.lt_iff_toInt_lt, Int32.le_iff_toInt_le, ← Int32.toInt_inj, Int32.toInt_add, Int32.toInt_sub, Int32.toInt_mul, Int32.toInt_neg, Int32.reduceToInt, g_bm, g_bm'] at *; simp at *; omega) | (simp_all; done)
set_option maxRecDepth 100000 in
theorem g_X12_isSeen_v4 (u : qS) (x : Int32) (r_6 : Int32) (hI : IM u) (c1_1 : ¬ (x : Int32) < 0) (hs_2 : 0 ≤ u.1 1247 ∧ u.1 1247 ≤ 120) (c9_3 : ¬ (u.1 1247) ≤ (x : Int32)) (c22_7 : ¬ r_6 < (u.2.1 1255 (x : Int32).toNatClampNeg : Int32)) : (1 = (1 : Int32) ∧ (0 ≤ x ∧ x < u.1 1247)) ∨ 1 = (0 : Int32) := by
  first | omega | ((try simp only [Int32.lt_iff_toInt_lt, Int32.le_iff_toInt_le, ← Int32.toInt_inj, Int32.toInt_add, Int32.toInt_sub, Int32.toInt_mul, Int32.toInt_neg, Int32.reduceToInt, g_bm, g_bm'] at *); omega) | (simp only [Int32.lt_iff_toInt_lt, Int32.le_iff_toInt_le, ← Int32.toInt_inj, Int32.toInt_add, Int32.toInt_sub, Int32.toInt_mul, Int32.toInt_neg, Int32.reduceToInt, g_bm, g_bm'] at *; simp at *; omega) | (simp_all; done)
set_option maxHeartbeats 1000000 in
set_option maxRecDepth 100000 in
theorem g_X12_isSeen (l : Launch) (E : qE) (A : Nat → Prop) (u : qS) (x : Int32) (hI : IM u) : Met l yX12_isSeen (uws yX12_isSeen cX12_isSeen 2 (some .boolean)) (qR 1 0 0) (qPc E A 1 u [.ref (E.2.2 1299), .int x]) (qQi E A 1 (fun r u1 => u1 = u ∧ ((r = 1 ∧ (0 ≤ x ∧ x < u.1 1247)) ∨ r = 0))) 0 0 A := by
  refine q_met (own := RX12) (f := 1) [.ref (E.2.2 1299), .int x] (by decide) (Nat.le_of_ble_eq_true rfl) rfl ?_
  intro p0 e0 s0 m0 bl0 me0 cd0 ls hF hr hlocks hU hS hA hl
  have hl : lv_has ls 2 [(0, .ref (E.2.2 1299)), (1, .int x)] := hl
  refine lv_iload_n hF.1 hF.2.1 dX12_isSeen_0 rfl (lv_at hl 1 rfl) ?_
  refine lv_if_lt (tgt := 29) hF.1 hF.2.1 dX12_isSeen_1 (by decide) (fun c1_1 => ?_) (fun c1_1 => ?_)
  · refine lv_iconst (v := 0) hF.1 hF.2.1 dX12_isSeen_29 (by decide) ?_
    exact q_iret hF hr (by decide) hlocks hU hS dX12_isSeen_30 ⟨rfl, (g_X12_isSeen_v0 u x hI c1_1)⟩
  · refine lv_iload_n hF.1 hF.2.1 dX12_isSeen_4 rfl (lv_at hl 1 rfl) ?_
    refine lv_aload_n hF.1 hF.2.1 dX12_isSeen_5 rfl (lv_at hl 0 rfl) ?_
    refine q_get (v := .int (u.1 1247)) hF hU dX12_isSeen_6 0 12 47 1247 1299 rfl rfl rfl rfl inX12 (by decide) (by decide) w_1379 rfl rfl ?_
    have hs_2 : 0 ≤ u.1 1247 ∧ u.1 1247 ≤ 120 := hI.1.s1247
    refine lv_icmp_ge (tgt := 29) hF.1 hF.2.1 dX12_isSeen_9 (by decide) (fun c9_3 => ?_) (fun c9_3 => ?_)
    · refine lv_iconst (v := 0) hF.1 hF.2.1 dX12_isSeen_29 (by decide) ?_
      exact q_iret hF hr (by decide) hlocks hU hS dX12_isSeen_30 ⟨rfl, (g_X12_isSeen_v1 u x hI c1_1 hs_2 c9_3)⟩
    · refine lv_aload_n hF.1 hF.2.1 dX12_isSeen_12 rfl (lv_at hl 0 rfl) ?_
      refine q_get (v := .ref (E.2.2 1255)) hF hU dX12_isSeen_13 0 12 55 1255 1299 rfl rfl rfl rfl inX12 (by decide) (by decide) w_1387 rfl rfl ?_
      refine lv_iload_n hF.1 hF.2.1 dX12_isSeen_16 rfl (lv_at hl 1 rfl) ?_
      refine q_iald (v := u.2.1 1255 (x : Int32).toNatClampNeg) hF hU dX12_isSeen_17 34 1255 rfl rfl (g_X12_isSeen_v2 u x hI c1_1 hs_2 c9_3) rfl ?_
      refine lv_aload_n hF.1 hF.2.1 dX12_isSeen_18 rfl (lv_at hl 0 rfl) ?_
      have hM9 := g_X12_viewDay l E A u
      have hR9 := q_runV (l := l) (e := e0) (below := bl0) (meth := me0) (R := qR 1 0 0) (cells := 0) (slots := 0) (st0 := [.ref (E.2.2 1299), .int (u.2.1 1255 (x : Int32).toNatClampNeg)]) (rest := [.int (u.2.1 1255 (x : Int32).toNatClampNeg)]) hF hU hS hA 0 0 12 1299 rfl rfl rfl hM9 w_1737 w_1739 w_72 w_107 w_1740 (by decide +kernel) ⟨Nat.le_of_ble_eq_true rfl, Nat.le_of_ble_eq_true rfl⟩ dX12_isSeen_19 rfl hl.1 rfl (Nat.le_of_ble_eq_true rfl) ⟨Nat.le_of_ble_eq_true rfl, Nat.le_of_ble_eq_true rfl⟩
      refine q_calli hR9 hU.2.2.2 hS (fun r_6 u_4 H locs hw_5 hU hS => ?_)
      obtain ⟨hw_5_e, hw_5⟩ := hw_5
      rw [hw_5_e] at hU
      refine lv_icmp_gt (tgt := 29) hF.1 hF.2.1 dX12_isSeen_22 (by decide) (fun c22_7 => ?_) (fun c22_7 => ?_)
      · refine lv_iconst (v := 0) hF.1 hF.2.1 dX12_isSeen_29 (by decide) ?_
        exact q_iret hF hr (by decide) hlocks hU hS dX12_isSeen_30 ⟨rfl, (g_X12_isSeen_v3 u x r_6 hI c1_1 hs_2 c9_3 c22_7)⟩
      · refine lv_iconst (v := 1) hF.1 hF.2.1 dX12_isSeen_25 (by decide) ?_
        refine lv_goto (tgt := 30) hF.1 hF.2.1 dX12_isSeen_26 (by decide) ?_
        exact q_iret hF hr (by decide) hlocks hU hS dX12_isSeen_30 ⟨rfl, (g_X12_isSeen_v4 u x r_6 hI c1_1 hs_2 c9_3 c22_7)⟩
set_option maxRecDepth 100000 in
theorem g_X12_formNow_v0 (u : qS) (x : Int32) (x3 : Int32) (hI : IM u) (hv : 0 ≤ x ∧ x < u.1 1247) (hvs : u.1 1247 ≤ 120) (h_k : 0 ≤ x3) (hs_1 : 0 ≤ u.1 1256 ∧ u.1 1256 ≤ 60) (c14_2 : ¬ (u.1 1256) ≤ (x3 : Int32)) : vp_in (x3) 60 := by
  have hz1247 := hI.1.s1247
  refine g_in ?_ ?_ <;> ((try simp only [Int32.lt_iff_toInt_lt, Int32.le_iff_toInt_le, ← Int32.toInt_inj, Int32.toInt_add, Int32.toInt_sub, Int32.toInt_mul, Int32.toInt_neg, Int32.reduceToInt, g_bm, g_bm'] at *); omega)
set_option maxRecDepth 100000 in
theorem g_X12_formNow_v1 (u : qS) (x : Int32) (x3 : Int32) (hI : IM u) (hv : 0 ≤ x ∧ x < u.1 1247) (hvs : u.1 1247 ≤ 120) (h_k : 0 ≤ x3) (hs_1 : 0 ≤ u.1 1256 ∧ u.1 1256 ≤ 60) (c14_2 : ¬ (u.1 1256) ≤ (x3 : Int32)) : 0 ≤ x3 ∧ x3 < u.1 1256 := by
  have hz1247 := hI.1.s1247
  first | omega | ((try simp only [Int32.lt_iff_toInt_lt, Int32.le_iff_toInt_le, ← Int32.toInt_inj, Int32.toInt_add, Int32.toInt_sub, Int32.toInt_mul, Int32.toInt_neg, Int32.reduceToInt, g_bm, g_bm'] at *); omega) | (simp only [Int32.lt_iff_toInt_lt, Int32.le_iff_toInt_le, ← Int32.toInt_inj, Int32.toInt_add, Int32.toInt_sub, Int32.toInt_mul, Int32.toInt_neg, Int32.reduceToInt, g_bm, g_bm'] at *; simp at *; omega) | (simp_all; done)
set_option maxRecDepth 100000 in
theorem g_X12_formNow_v2 (u : qS) (x : Int32) (x3 : Int32) (hI : IM u) (hv : 0 ≤ x ∧ x < u.1 1247) (hvs : u.1 1247 ≤ 120) (h_k : 0 ≤ x3) (hs_1 : 0 ≤ u.1 1256 ∧ u.1 1256 ≤ 60) (c14_2 : ¬ (u.1 1256) ≤ (x3 : Int32)) (hb_3 : 0 ≤ (u.2.1 1257 (x3 : Int32).toNatClampNeg) ∧ (u.2.1 1257 (x3 : Int32).toNatClampNeg) < u.1 1247) (hs_4 : 0 ≤ u.1 1247 ∧ u.1 1247 ≤ 120) (c24_5 : ¬ (u.2.1 1257 (x3 : Int32).toNatClampNeg : Int32) = x) : 0 ≤ (x3 + 1) := by
  first | omega | ((try simp only [Int32.lt_iff_toInt_lt, Int32.le_iff_toInt_le, ← Int32.toInt_inj, Int32.toInt_add, Int32.toInt_sub, Int32.toInt_mul, Int32.toInt_neg, Int32.reduceToInt, g_bm, g_bm'] at *); omega) | (simp only [Int32.lt_iff_toInt_lt, Int32.le_iff_toInt_le, ← Int32.toInt_inj, Int32.toInt_add, Int32.toInt_sub, Int32.toInt_mul, Int32.toInt_neg, Int32.reduceToInt, g_bm, g_bm'] at *; simp at *; omega) | (simp_all; done)
set_option maxRecDepth 100000 in
theorem g_X12_formNow_v3 (u : qS) (x : Int32) (x3 : Int32) (hI : IM u) (hv : 0 ≤ x ∧ x < u.1 1247) (hvs : u.1 1247 ≤ 120) (h_k : 0 ≤ x3) (hs_1 : 0 ≤ u.1 1256 ∧ u.1 1256 ≤ 60) (c14_2 : ¬ (u.1 1256) ≤ (x3 : Int32)) (hb_3 : 0 ≤ (u.2.1 1257 (x3 : Int32).toNatClampNeg) ∧ (u.2.1 1257 (x3 : Int32).toNatClampNeg) < u.1 1247) (hs_4 : 0 ≤ u.1 1247 ∧ u.1 1247 ≤ 120) (c24_5 : ¬ (u.2.1 1257 (x3 : Int32).toNatClampNeg : Int32) = x) : ((u.1 1256).toInt - (x3 + 1).toInt).toNat < ((u.1 1256).toInt - x3.toInt).toNat := by
  first | omega | ((try simp only [Int32.lt_iff_toInt_lt, Int32.le_iff_toInt_le, ← Int32.toInt_inj, Int32.toInt_add, Int32.toInt_sub, Int32.toInt_mul, Int32.toInt_neg, Int32.reduceToInt, g_bm, g_bm'] at *); omega) | (simp only [Int32.lt_iff_toInt_lt, Int32.le_iff_toInt_le, ← Int32.toInt_inj, Int32.toInt_add, Int32.toInt_sub, Int32.toInt_mul, Int32.toInt_neg, Int32.reduceToInt, g_bm, g_bm'] at *; simp at *; omega) | (simp_all; done)
set_option maxRecDepth 100000 in
theorem g_X12_formNow_v4 (u : qS) (x : Int32) (x3 : Int32) (hI : IM u) (hv : 0 ≤ x ∧ x < u.1 1247) (hvs : u.1 1247 ≤ 120) (h_k : 0 ≤ x3) (hs_1 : 0 ≤ u.1 1256 ∧ u.1 1256 ≤ 60) (c14_2 : ¬ (u.1 1256) ≤ (x3 : Int32)) (hb_3 : 0 ≤ (u.2.1 1257 (x3 : Int32).toNatClampNeg) ∧ (u.2.1 1257 (x3 : Int32).toNatClampNeg) < u.1 1247) (hs_4 : 0 ≤ u.1 1247 ∧ u.1 1247 ≤ 120) (c24_5 : (u.2.1 1257 (x3 : Int32).toNatClampNeg : Int32) = x) : vp_in (x3) 60 := by
  refine g_in ?_ ?_ <;> ((try simp only [Int32.lt_iff_toInt_lt, Int32.le_iff_toInt_le, ← Int32.toInt_inj, Int32.toInt_add, Int32.toInt_sub, Int32.toInt_mul, Int32.toInt_neg, Int32.reduceToInt, g_bm, g_bm'] at *); omega)
set_option maxRecDepth 100000 in
theorem g_X12_formNow_v5 (u : qS) (x : Int32) (x3 : Int32) (r_8 : Int32) (hI : IM u) (hv : 0 ≤ x ∧ x < u.1 1247) (hvs : u.1 1247 ≤ 120) (h_k : 0 ≤ x3) (hs_1 : 0 ≤ u.1 1256 ∧ u.1 1256 ≤ 60) (c14_2 : ¬ (u.1 1256) ≤ (x3 : Int32)) (hb_3 : 0 ≤ (u.2.1 1257 (x3 : Int32).toNatClampNeg) ∧ (u.2.1 1257 (x3 : Int32).toNatClampNeg) < u.1 1247) (hs_4 : 0 ≤ u.1 1247 ∧ u.1 1247 ≤ 120) (c24_5 : (u.2.1 1257 (x3 : Int32).toNatClampNeg : Int32) = x) (c37_9 : r_8 < (u.2.1 1259 (x3 : Int32).toNatClampNeg : Int32)) : 0 ≤ (x3 + 1) := by
  first | omega | ((try simp only [Int32.lt_iff_toInt_lt, Int32.le_iff_toInt_le, ← Int32.toInt_inj, Int32.toInt_add, Int32.toInt_sub, Int32.toInt_mul, Int32.toInt_neg, Int32.reduceToInt, g_bm, g_bm'] at *); omega) | (simp only [Int32.lt_iff_toInt_lt, Int32.le_iff_toInt_le, ← Int32.toInt_inj, Int32.toInt_add, Int32.toInt_sub, Int32.toInt_mul, Int32.toInt_neg, Int32.reduceToInt, g_bm, g_bm'] at *; simp at *; omega) | (simp_all; done)
set_option maxRecDepth 100000 in
theorem g_X12_formNow_v6 (u : qS) (x : Int32) (x3 : Int32) (r_8 : Int32) (hI : IM u) (hv : 0 ≤ x ∧ x < u.1 1247) (hvs : u.1 1247 ≤ 120) (h_k : 0 ≤ x3) (hs_1 : 0 ≤ u.1 1256 ∧ u.1 1256 ≤ 60) (c14_2 : ¬ (u.1 1256) ≤ (x3 : Int32)) (hb_3 : 0 ≤ (u.2.1 1257 (x3 : Int32).toNatClampNeg) ∧ (u.2.1 1257 (x3 : Int32).toNatClampNeg) < u.1 1247) (hs_4 : 0 ≤ u.1 1247 ∧ u.1 1247 ≤ 120) (c24_5 : (u.2.1 1257 (x3 : Int32).toNatClampNeg : Int32) = x) (c37_9 : r_8 < (u.2.1 1259 (x3 : Int32).toNatClampNeg : Int32)) : ((u.1 1256).toInt - (x3 + 1).toInt).toNat < ((u.1 1256).toInt - x3.toInt).toNat := by
  first | omega | ((try simp only [Int32.lt_iff_toInt_lt, Int32.le_iff_toInt_le, ← Int32.toInt_inj, Int32.toInt_add, Int32.toInt_sub, Int32.toInt_mul, Int32.toInt_neg, Int32.reduceToInt, g_bm, g_bm'] at *); omega) | (simp only [Int32.lt_iff_toInt_lt, Int32.le_iff_toInt_le, ← Int32.toInt_inj, Int32.toInt_add, Int32.toInt_sub, Int32.toInt_mul, Int32.toInt_neg, Int32.reduceToInt, g_bm, g_bm'] at *; simp at *; omega) | (simp_all; done)
set_option maxRecDepth 100000 in
theorem g_X12_formNow_v7 (u : qS) (x : Int32) (x3 : Int32) (r_8 : Int32) (hI : IM u) (hv : 0 ≤ x ∧ x < u.1 1247) (hvs : u.1 1247 ≤ 120) (h_k : 0 ≤ x3) (hs_1 : 0 ≤ u.1 1256 ∧ u.1 1256 ≤ 60) (c14_2 : ¬ (u.1 1256) ≤ (x3 : Int32)) (hb_3 : 0 ≤ (u.2.1 1257 (x3 : Int32).toNatClampNeg) ∧ (u.2.1 1257 (x3 : Int32).toNatClampNeg) < u.1 1247) (hs_4 : 0 ≤ u.1 1247 ∧ u.1 1247 ≤ 120) (c24_5 : (u.2.1 1257 (x3 : Int32).toNatClampNeg : Int32) = x) (c37_9 : ¬ r_8 < (u.2.1 1259 (x3 : Int32).toNatClampNeg : Int32)) : vp_in (x3) 60 := by
  refine g_in ?_ ?_ <;> ((try simp only [Int32.lt_iff_toInt_lt, Int32.le_iff_toInt_le, ← Int32.toInt_inj, Int32.toInt_add, Int32.toInt_sub, Int32.toInt_mul, Int32.toInt_neg, Int32.reduceToInt, g_bm, g_bm'] at *); omega)
set_option maxRecDepth 100000 in
theorem g_X12_formNow_v8 (u : qS) (x : Int32) (x3 : Int32) (r_8 : Int32) (hI : IM u) (hv : 0 ≤ x ∧ x < u.1 1247) (hvs : u.1 1247 ≤ 120) (h_k : 0 ≤ x3) (hs_1 : 0 ≤ u.1 1256 ∧ u.1 1256 ≤ 60) (c14_2 : ¬ (u.1 1256) ≤ (x3 : Int32)) (hb_3 : 0 ≤ (u.2.1 1257 (x3 : Int32).toNatClampNeg) ∧ (u.2.1 1257 (x3 : Int32).toNatClampNeg) < u.1 1247) (hs_4 : 0 ≤ u.1 1247 ∧ u.1 1247 ≤ 120) (c24_5 : (u.2.1 1257 (x3 : Int32).toNatClampNeg : Int32) = x) (c37_9 : ¬ r_8 < (u.2.1 1259 (x3 : Int32).toNatClampNeg : Int32)) : 0 ≤ (x3 + 1) := by
  first | omega | ((try simp only [Int32.lt_iff_toInt_lt, Int32.le_iff_toInt_le, ← Int32.toInt_inj, Int32.toInt_add, Int32.toInt_sub, Int32.toInt_mul, Int32.toInt_neg, Int32.reduceToInt, g_bm, g_bm'] at *); omega) | (simp only [Int32.lt_iff_toInt_lt, Int32.le_iff_toInt_le, ← Int32.toInt_inj, Int32.toInt_add, Int32.toInt_sub, Int32.toInt_mul, Int32.toInt_neg, Int32.reduceToInt, g_bm, g_bm'] at *; simp at *; omega) | (simp_all; done)
set_option maxRecDepth 100000 in
theorem g_X12_formNow_v9 (u : qS) (x : Int32) (x3 : Int32) (r_8 : Int32) (hI : IM u) (hv : 0 ≤ x ∧ x < u.1 1247) (hvs : u.1 1247 ≤ 120) (h_k : 0 ≤ x3) (hs_1 : 0 ≤ u.1 1256 ∧ u.1 1256 ≤ 60) (c14_2 : ¬ (u.1 1256) ≤ (x3 : Int32)) (hb_3 : 0 ≤ (u.2.1 1257 (x3 : Int32).toNatClampNeg) ∧ (u.2.1 1257 (x3 : Int32).toNatClampNeg) < u.1 1247) (hs_4 : 0 ≤ u.1 1247 ∧ u.1 1247 ≤ 120) (c24_5 : (u.2.1 1257 (x3 : Int32).toNatClampNeg : Int32) = x) (c37_9 : ¬ r_8 < (u.2.1 1259 (x3 : Int32).toNatClampNeg : Int32)) : ((u.1 1256).toInt - (x3 + 1).toInt).toNat < ((u.1 1256).toInt - x3.toInt).toNat := by
  first | omega | ((try simp only [Int32.lt_iff_toInt_lt, Int32.le_iff_toInt_le, ← Int32.toInt_inj, Int32.toInt_add, Int32.toInt_sub, Int32.toInt_mul, Int32.toInt_neg, Int32.reduceToInt, g_bm, g_bm'] at *); omega) | (simp only [Int32.lt_iff_toInt_lt, Int32.le_iff_toInt_le, ← Int32.toInt_inj, Int32.toInt_add, Int32.toInt_sub, Int32.toInt_mul, Int32.toInt_neg, Int32.reduceToInt, g_bm, g_bm'] at *; simp at *; omega) | (simp_all; done)
set_option maxRecDepth 100000 in
theorem g_X12_formNow_v10 (u : qS) (x : Int32) (hI : IM u) (hv : 0 ≤ x ∧ x < u.1 1247) (hvs : u.1 1247 ≤ 120) : vp_in (x) 120 := by
  have hz1247 := hI.1.s1247
  refine g_in ?_ ?_ <;> ((try simp only [Int32.lt_iff_toInt_lt, Int32.le_iff_toInt_le, ← Int32.toInt_inj, Int32.toInt_add, Int32.toInt_sub, Int32.toInt_mul, Int32.toInt_neg, Int32.reduceToInt, g_bm, g_bm'] at *); omega)
set_option maxRecDepth 100000 in
theorem g_X12_formNow_v11 (u : qS) (x : Int32) (hI : IM u) (hv : 0 ≤ x ∧ x < u.1 1247) (hvs : u.1 1247 ≤ 120) : 0 ≤ (0 : Int32) := by
  have hz1247 := hI.1.s1247
  first | omega | ((try simp only [Int32.lt_iff_toInt_lt, Int32.le_iff_toInt_le, ← Int32.toInt_inj, Int32.toInt_add, Int32.toInt_sub, Int32.toInt_mul, Int32.toInt_neg, Int32.reduceToInt, g_bm, g_bm'] at *); omega) | (simp only [Int32.lt_iff_toInt_lt, Int32.le_iff_toInt_le, ← Int32.toInt_inj, Int32.toInt_add, Int32.toInt_sub, Int32.toInt_mul, Int32.toInt_neg, Int32.reduceToInt, g_bm, g_bm'] at *; simp at *; omega) | (simp_all; done)
set_option maxHeartbeats 1000000 in
set_option maxRecDepth 100000 in
theorem g_X12_formNow (l : Launch) (E : qE) (A : Nat → Prop) (u : qS) (x : Int32) (hI : IM u) (hv : 0 ≤ x ∧ x < u.1 1247) (hvs : u.1 1247 ≤ 120) : Met l yX12_formNow (uws yX12_formNow cX12_formNow 4 (some .int)) (qR 1 0 0) (qPc E A 1 u [.ref (E.2.2 1299), .int x]) (qQi E A 1 (fun r u1 => u1 = u ∧ (True))) 0 0 A := by
  refine q_met (own := RX12) (f := 1) [.ref (E.2.2 1299), .int x] (by decide) (Nat.le_of_ble_eq_true rfl) rfl ?_
  intro p0 e0 s0 m0 bl0 me0 cd0 ls hF hr hlocks hU hS hA hl
  have hl : lv_has ls 4 [(0, .ref (E.2.2 1299)), (1, .int x)] := hl
  have main : ∀ n : Nat, (∀ (x2 : Int32) (x3 : Int32) (uc : qS) (H : Heap) (locs : List Loc) (ls : Array Slot) (huc : u = uc) (h_k : 0 ≤ x3), ((u.1 1256).toInt - x3.toInt).toNat < n → qH E A 1 uc s0 H → va_S A s0.heap H locs → lv_has ls 4 [(0, .ref (E.2.2 1299)), (1, .int x), (2, .int x2), (3, .int x3)] → W p0 l e0 (qR 1 0 0) s0 m0 ([.ref (E.2.2 1299), .int x] : List Value).toArray bl0 me0 cd0 H locs 0 0 (MQ bl0 (qQi E A 1 (fun r u1 => u1 = u ∧ (True))) ([.ref (E.2.2 1299), .int x] : List Value).toArray s0 0 0 A) (F0 m0 9 ls [])) := by
    intro n
    induction n with
    | zero => exact fun _ _ _ _ _ _ _ _ hmu => absurd hmu (Nat.not_lt_zero _)
    | succ n ih =>
      intro x2 x3 uc H locs ls huc h_k hmu hU hS hl
      subst huc
      refine lv_iload_n hF.1 hF.2.1 dX12_formNow_9 rfl (lv_at hl 3 rfl) ?_
      refine lv_aload_n hF.1 hF.2.1 dX12_formNow_10 rfl (lv_at hl 0 rfl) ?_
      refine q_get (v := .int (u.1 1256)) hF hU dX12_formNow_11 0 12 56 1256 1299 rfl rfl rfl rfl inX12 (by decide) (by decide) w_1388 rfl rfl ?_
      have hs_1 : 0 ≤ u.1 1256 ∧ u.1 1256 ≤ 60 := hI.1.s1256
      refine lv_icmp_ge (tgt := 61) hF.1 hF.2.1 dX12_formNow_14 (by decide) (fun c14_2 => ?_) (fun c14_2 => ?_)
      · refine lv_iload_n hF.1 hF.2.1 dX12_formNow_61 rfl (lv_at hl 2 rfl) ?_
        exact q_iret hF hr rfl hlocks hU hS dX12_formNow_62 ⟨rfl, trivial⟩
      · refine lv_aload_n hF.1 hF.2.1 dX12_formNow_17 rfl (lv_at hl 0 rfl) ?_
        refine q_get (v := .ref (E.2.2 1257)) hF hU dX12_formNow_18 0 12 57 1257 1299 rfl rfl rfl rfl inX12 (by decide) (by decide) w_1389 rfl rfl ?_
        refine lv_iload_n hF.1 hF.2.1 dX12_formNow_21 rfl (lv_at hl 3 rfl) ?_
        refine q_iald (v := u.2.1 1257 (x3 : Int32).toNatClampNeg) hF hU dX12_formNow_22 35 1257 rfl rfl (g_X12_formNow_v0 u x x3 hI hv hvs h_k hs_1 c14_2) rfl ?_
        have hb_3 : 0 ≤ (u.2.1 1257 (x3 : Int32).toNatClampNeg) ∧ (u.2.1 1257 (x3 : Int32).toNatClampNeg) < u.1 1247 := hI.2.1.r1257 x3 (g_X12_formNow_v1 u x x3 hI hv hvs h_k hs_1 c14_2)
        have hs_4 : 0 ≤ u.1 1247 ∧ u.1 1247 ≤ 120 := hI.1.s1247
        refine lv_iload_n hF.1 hF.2.1 dX12_formNow_23 rfl (lv_at hl 1 rfl) ?_
        refine lv_icmp_ne (tgt := 53) hF.1 hF.2.1 dX12_formNow_24 (by decide) (fun c24_5 => ?_) (fun c24_5 => ?_)
        · refine lv_iload_n hF.1 hF.2.1 dX12_formNow_53 rfl (lv_at hl 2 rfl) ?_
          refine lv_istore_n (lv' := [(2, .int x2), (0, .ref (E.2.2 1299)), (1, .int x), (3, .int x3)]) hF.1 hF.2.1 dX12_formNow_54 rfl hl (by decide) rfl (fun ls hl => ?_)
          refine lv_iinc (v := x3 + 1) (lv' := [(3, .int (x3 + 1)), (2, .int x2), (0, .ref (E.2.2 1299)), (1, .int x)]) hF.1 hF.2.1 dX12_formNow_55 hl (k := 3) rfl rfl (by decide) rfl (fun ls hl => ?_)
          refine lv_goto (tgt := 9) hF.1 hF.2.1 dX12_formNow_58 (by decide) ?_
          exact ih x2 (x3 + 1) u _ _ _ rfl (g_X12_formNow_v2 u x x3 hI hv hvs h_k hs_1 c14_2 hb_3 hs_4 c24_5) (Nat.lt_of_lt_of_le (g_X12_formNow_v3 u x x3 hI hv hvs h_k hs_1 c14_2 hb_3 hs_4 c24_5) (Nat.lt_succ_iff.mp hmu)) hU hS (lv_sub hl [2, 3, 1, 0] rfl)
        · refine lv_aload_n hF.1 hF.2.1 dX12_formNow_27 rfl (lv_at hl 0 rfl) ?_
          refine q_get (v := .ref (E.2.2 1259)) hF hU dX12_formNow_28 0 12 59 1259 1299 rfl rfl rfl rfl inX12 (by decide) (by decide) w_1391 rfl rfl ?_
          refine lv_iload_n hF.1 hF.2.1 dX12_formNow_31 rfl (lv_at hl 3 rfl) ?_
          refine q_iald (v := u.2.1 1259 (x3 : Int32).toNatClampNeg) hF hU dX12_formNow_32 37 1259 rfl rfl (g_X12_formNow_v4 u x x3 hI hv hvs h_k hs_1 c14_2 hb_3 hs_4 c24_5) rfl ?_
          refine lv_aload_n hF.1 hF.2.1 dX12_formNow_33 rfl (lv_at hl 0 rfl) ?_
          have hM9 := g_X12_viewDay l E A u
          have hR9 := q_runV (l := l) (e := e0) (below := bl0) (meth := me0) (R := qR 1 0 0) (cells := 0) (slots := 0) (st0 := [.ref (E.2.2 1299), .int (u.2.1 1259 (x3 : Int32).toNatClampNeg)]) (rest := [.int (u.2.1 1259 (x3 : Int32).toNatClampNeg)]) hF hU hS hA 0 0 12 1299 rfl rfl rfl hM9 w_1737 w_1739 w_72 w_107 w_1740 (by decide +kernel) ⟨Nat.le_of_ble_eq_true rfl, Nat.le_of_ble_eq_true rfl⟩ dX12_formNow_34 rfl hl.1 rfl (Nat.le_of_ble_eq_true rfl) ⟨Nat.le_of_ble_eq_true rfl, Nat.le_of_ble_eq_true rfl⟩
          refine q_calli hR9 hU.2.2.2 hS (fun r_8 u_6 H locs hw_7 hU hS => ?_)
          obtain ⟨hw_7_e, hw_7⟩ := hw_7
          rw [hw_7_e] at hU
          refine lv_icmp_gt (tgt := 53) hF.1 hF.2.1 dX12_formNow_37 (by decide) (fun c37_9 => ?_) (fun c37_9 => ?_)
          · refine lv_iload_n hF.1 hF.2.1 dX12_formNow_53 rfl (lv_at hl 2 rfl) ?_
            refine lv_istore_n (lv' := [(2, .int x2), (0, .ref (E.2.2 1299)), (1, .int x), (3, .int x3)]) hF.1 hF.2.1 dX12_formNow_54 rfl hl (by decide) rfl (fun ls hl => ?_)
            refine lv_iinc (v := x3 + 1) (lv' := [(3, .int (x3 + 1)), (2, .int x2), (0, .ref (E.2.2 1299)), (1, .int x)]) hF.1 hF.2.1 dX12_formNow_55 hl (k := 3) rfl rfl (by decide) rfl (fun ls hl => ?_)
            refine lv_goto (tgt := 9) hF.1 hF.2.1 dX12_formNow_58 (by decide) ?_
            exact ih x2 (x3 + 1) u _ _ _ rfl (g_X12_formNow_v5 u x x3 r_8 hI hv hvs h_k hs_1 c14_2 hb_3 hs_4 c24_5 c37_9) (Nat.lt_of_lt_of_le (g_X12_formNow_v6 u x x3 r_8 hI hv hvs h_k hs_1 c14_2 hb_3 hs_4 c24_5 c37_9) (Nat.lt_succ_iff.mp hmu)) hU hS (lv_sub hl [2, 3, 1, 0] rfl)
          · refine lv_iload_n hF.1 hF.2.1 dX12_formNow_40 rfl (lv_at hl 2 rfl) ?_
            refine lv_iconst (v := 1) hF.1 hF.2.1 dX12_formNow_41 (by decide) ?_
            refine lv_aload_n hF.1 hF.2.1 dX12_formNow_42 rfl (lv_at hl 0 rfl) ?_
            refine q_get (v := .ref (E.2.2 1258)) hF hU dX12_formNow_43 0 12 58 1258 1299 rfl rfl rfl rfl inX12 (by decide) (by decide) w_1390 rfl rfl ?_
            refine lv_iload_n hF.1 hF.2.1 dX12_formNow_46 rfl (lv_at hl 3 rfl) ?_
            refine q_iald (v := u.2.1 1258 (x3 : Int32).toNatClampNeg) hF hU dX12_formNow_47 36 1258 rfl rfl (g_X12_formNow_v7 u x x3 r_8 hI hv hvs h_k hs_1 c14_2 hb_3 hs_4 c24_5 c37_9) rfl ?_
            refine lv_ishl hF.1 hF.2.1 dX12_formNow_48 ?_
            refine lv_ixor hF.1 hF.2.1 dX12_formNow_49 ?_
            refine lv_goto (tgt := 54) hF.1 hF.2.1 dX12_formNow_50 (by decide) ?_
            refine lv_istore_n (lv' := [(2, .int (x2 ^^^ (1 <<< (u.2.1 1258 (x3 : Int32).toNatClampNeg &&& 31)))), (0, .ref (E.2.2 1299)), (1, .int x), (3, .int x3)]) hF.1 hF.2.1 dX12_formNow_54 rfl hl (by decide) rfl (fun ls hl => ?_)
            refine lv_iinc (v := x3 + 1) (lv' := [(3, .int (x3 + 1)), (2, .int (x2 ^^^ (1 <<< (u.2.1 1258 (x3 : Int32).toNatClampNeg &&& 31)))), (0, .ref (E.2.2 1299)), (1, .int x)]) hF.1 hF.2.1 dX12_formNow_55 hl (k := 3) rfl rfl (by decide) rfl (fun ls hl => ?_)
            refine lv_goto (tgt := 9) hF.1 hF.2.1 dX12_formNow_58 (by decide) ?_
            exact ih (x2 ^^^ (1 <<< (u.2.1 1258 (x3 : Int32).toNatClampNeg &&& 31))) (x3 + 1) u _ _ _ rfl (g_X12_formNow_v8 u x x3 r_8 hI hv hvs h_k hs_1 c14_2 hb_3 hs_4 c24_5 c37_9) (Nat.lt_of_lt_of_le (g_X12_formNow_v9 u x x3 r_8 hI hv hvs h_k hs_1 c14_2 hb_3 hs_4 c24_5 c37_9) (Nat.lt_succ_iff.mp hmu)) hU hS (lv_sub hl [2, 3, 1, 0] rfl)
  refine lv_aload_n hF.1 hF.2.1 dX12_formNow_0 rfl (lv_at hl 0 rfl) ?_
  refine q_get (v := .ref (E.2.2 1253)) hF hU dX12_formNow_1 0 12 53 1253 1299 rfl rfl rfl rfl inX12 (by decide) (by decide) w_1385 rfl rfl ?_
  refine lv_iload_n hF.1 hF.2.1 dX12_formNow_4 rfl (lv_at hl 1 rfl) ?_
  refine q_iald (v := u.2.1 1253 (x : Int32).toNatClampNeg) hF hU dX12_formNow_5 32 1253 rfl rfl (g_X12_formNow_v10 u x hI hv hvs) rfl ?_
  refine lv_istore_n (lv' := [(2, .int (u.2.1 1253 (x : Int32).toNatClampNeg)), (0, .ref (E.2.2 1299)), (1, .int x)]) hF.1 hF.2.1 dX12_formNow_6 rfl hl (by decide) rfl (fun ls hl => ?_)
  refine lv_iconst (v := 0) hF.1 hF.2.1 dX12_formNow_7 (by decide) ?_
  refine lv_istore_n (lv' := [(3, .int 0), (2, .int (u.2.1 1253 (x : Int32).toNatClampNeg)), (0, .ref (E.2.2 1299)), (1, .int x)]) hF.1 hF.2.1 dX12_formNow_8 rfl hl (by decide) rfl (fun ls hl => ?_)
  exact (main _) (u.2.1 1253 (x : Int32).toNatClampNeg) (0 : Int32) u _ _ _ rfl (g_X12_formNow_v11 u x hI hv hvs) (Nat.lt_succ_self _) hU hS (lv_sub hl [2, 3, 1, 0] rfl)
set_option maxRecDepth 100000 in
theorem g_X12_isAhead_v0 (u : qS) (x : Int32) (y : Int32) (hx : 0 ≤ x ∧ x < u.1 1247) (hy : 0 ≤ y ∧ y < u.1 1247) (hys : u.1 1247 ≤ 120) : vp_in (x) 120 := by
  refine g_in ?_ ?_ <;> ((try simp only [Int32.lt_iff_toInt_lt, Int32.le_iff_toInt_le, ← Int32.toInt_inj, Int32.toInt_add, Int32.toInt_sub, Int32.toInt_mul, Int32.toInt_neg, Int32.reduceToInt, g_bm, g_bm'] at *); omega)
set_option maxRecDepth 100000 in
theorem g_X12_isAhead_v1 (u : qS) (x : Int32) (y : Int32) (hx : 0 ≤ x ∧ x < u.1 1247) (hy : 0 ≤ y ∧ y < u.1 1247) (hys : u.1 1247 ≤ 120) : vp_in (y) 120 := by
  refine g_in ?_ ?_ <;> ((try simp only [Int32.lt_iff_toInt_lt, Int32.le_iff_toInt_le, ← Int32.toInt_inj, Int32.toInt_add, Int32.toInt_sub, Int32.toInt_mul, Int32.toInt_neg, Int32.reduceToInt, g_bm, g_bm'] at *); omega)
set_option maxRecDepth 100000 in
theorem g_X12_isAhead_v2 (u : qS) (x : Int32) (y : Int32) (hx : 0 ≤ x ∧ x < u.1 1247) (hy : 0 ≤ y ∧ y < u.1 1247) (hys : u.1 1247 ≤ 120) : vp_in (x) 120 := by
  refine g_in ?_ ?_ <;> ((try simp only [Int32.lt_iff_toInt_lt, Int32.le_iff_toInt_le, ← Int32.toInt_inj, Int32.toInt_add, Int32.toInt_sub, Int32.toInt_mul, Int32.toInt_neg, Int32.reduceToInt, g_bm, g_bm'] at *); omega)
set_option maxRecDepth 100000 in
theorem g_X12_isAhead_v3 (u : qS) (x : Int32) (y : Int32) (hx : 0 ≤ x ∧ x < u.1 1247) (hy : 0 ≤ y ∧ y < u.1 1247) (hys : u.1 1247 ≤ 120) : vp_in (y) 120 := by
  refine g_in ?_ ?_ <;> ((try simp only [Int32.lt_iff_toInt_lt, Int32.le_iff_toInt_le, ← Int32.toInt_inj, Int32.toInt_add, Int32.toInt_sub, Int32.toInt_mul, Int32.toInt_neg, Int32.reduceToInt, g_bm, g_bm'] at *); omega)
set_option maxRecDepth 100000 in
theorem g_X12_isAhead_v4 (u : qS) (x : Int32) (y : Int32) (hx : 0 ≤ x ∧ x < u.1 1247) (hy : 0 ≤ y ∧ y < u.1 1247) (hys : u.1 1247 ≤ 120) (c30_1 : ((u.2.1 1250 (x : Int32).toNatClampNeg) - (u.2.1 1250 (y : Int32).toNatClampNeg) : Int32) < 0) : (1 : Int32) = 1 ∨ (1 : Int32) = 0 := by
  first | omega | ((try simp only [Int32.lt_iff_toInt_lt, Int32.le_iff_toInt_le, ← Int32.toInt_inj, Int32.toInt_add, Int32.toInt_sub, Int32.toInt_mul, Int32.toInt_neg, Int32.reduceToInt, g_bm, g_bm'] at *); omega) | (simp only [Int32.lt_iff_toInt_lt, Int32.le_iff_toInt_le, ← Int32.toInt_inj, Int32.toInt_add, Int32.toInt_sub, Int32.toInt_mul, Int32.toInt_neg, Int32.reduceToInt, g_bm, g_bm'] at *; simp at *; omega) | (simp_all; done)
set_option maxRecDepth 100000 in
theorem g_X12_isAhead_v5 (u : qS) (x : Int32) (y : Int32) (hx : 0 ≤ x ∧ x < u.1 1247) (hy : 0 ≤ y ∧ y < u.1 1247) (hys : u.1 1247 ≤ 120) (c30_1 : ¬ ((u.2.1 1250 (x : Int32).toNatClampNeg) - (u.2.1 1250 (y : Int32).toNatClampNeg) : Int32) < 0) (c34_2 : ¬ ((u.2.1 1250 (x : Int32).toNatClampNeg) - (u.2.1 1250 (y : Int32).toNatClampNeg) : Int32) = 0) : (0 : Int32) = 1 ∨ (0 : Int32) = 0 := by
  first | omega | ((try simp only [Int32.lt_iff_toInt_lt, Int32.le_iff_toInt_le, ← Int32.toInt_inj, Int32.toInt_add, Int32.toInt_sub, Int32.toInt_mul, Int32.toInt_neg, Int32.reduceToInt, g_bm, g_bm'] at *); omega) | (simp only [Int32.lt_iff_toInt_lt, Int32.le_iff_toInt_le, ← Int32.toInt_inj, Int32.toInt_add, Int32.toInt_sub, Int32.toInt_mul, Int32.toInt_neg, Int32.reduceToInt, g_bm, g_bm'] at *; simp at *; omega) | (simp_all; done)
set_option maxRecDepth 100000 in
theorem g_X12_isAhead_v6 (u : qS) (x : Int32) (y : Int32) (hx : 0 ≤ x ∧ x < u.1 1247) (hy : 0 ≤ y ∧ y < u.1 1247) (hys : u.1 1247 ≤ 120) (c30_1 : ¬ ((u.2.1 1250 (x : Int32).toNatClampNeg) - (u.2.1 1250 (y : Int32).toNatClampNeg) : Int32) < 0) (c34_2 : ((u.2.1 1250 (x : Int32).toNatClampNeg) - (u.2.1 1250 (y : Int32).toNatClampNeg) : Int32) = 0) (c39_3 : ((u.2.1 1251 (x : Int32).toNatClampNeg) - (u.2.1 1251 (y : Int32).toNatClampNeg) : Int32) < 0) : (1 : Int32) = 1 ∨ (1 : Int32) = 0 := by
  first | omega | ((try simp only [Int32.lt_iff_toInt_lt, Int32.le_iff_toInt_le, ← Int32.toInt_inj, Int32.toInt_add, Int32.toInt_sub, Int32.toInt_mul, Int32.toInt_neg, Int32.reduceToInt, g_bm, g_bm'] at *); omega) | (simp only [Int32.lt_iff_toInt_lt, Int32.le_iff_toInt_le, ← Int32.toInt_inj, Int32.toInt_add, Int32.toInt_sub, Int32.toInt_mul, Int32.toInt_neg, Int32.reduceToInt, g_bm, g_bm'] at *; simp at *; omega) | (simp_all; done)
set_option maxRecDepth 100000 in
theorem g_X12_isAhead_v7 (u : qS) (x : Int32) (y : Int32) (hx : 0 ≤ x ∧ x < u.1 1247) (hy : 0 ≤ y ∧ y < u.1 1247) (hys : u.1 1247 ≤ 120) (c30_1 : ¬ ((u.2.1 1250 (x : Int32).toNatClampNeg) - (u.2.1 1250 (y : Int32).toNatClampNeg) : Int32) < 0) (c34_2 : ((u.2.1 1250 (x : Int32).toNatClampNeg) - (u.2.1 1250 (y : Int32).toNatClampNeg) : Int32) = 0) (c39_3 : ¬ ((u.2.1 1251 (x : Int32).toNatClampNeg) - (u.2.1 1251 (y : Int32).toNatClampNeg) : Int32) < 0) (c44_4 : ¬ ((u.2.1 1251 (x : Int32).toNatClampNeg) - (u.2.1 1251 (y : Int32).toNatClampNeg) : Int32) = 0) : (0 : Int32) = 1 ∨ (0 : Int32) = 0 := by
  first | omega | ((try simp only [Int32.lt_iff_toInt_lt, Int32.le_iff_toInt_le, ← Int32.toInt_inj, Int32.toInt_add, Int32.toInt_sub, Int32.toInt_mul, Int32.toInt_neg, Int32.reduceToInt, g_bm, g_bm'] at *); omega) | (simp only [Int32.lt_iff_toInt_lt, Int32.le_iff_toInt_le, ← Int32.toInt_inj, Int32.toInt_add, Int32.toInt_sub, Int32.toInt_mul, Int32.toInt_neg, Int32.reduceToInt, g_bm, g_bm'] at *; simp at *; omega) | (simp_all; done)
set_option maxRecDepth 100000 in
theorem g_X12_isAhead_v8 (u : qS) (x : Int32) (y : Int32) (hx : 0 ≤ x ∧ x < u.1 1247) (hy : 0 ≤ y ∧ y < u.1 1247) (hys : u.1 1247 ≤ 120) (c30_1 : ¬ ((u.2.1 1250 (x : Int32).toNatClampNeg) - (u.2.1 1250 (y : Int32).toNatClampNeg) : Int32) < 0) (c34_2 : ((u.2.1 1250 (x : Int32).toNatClampNeg) - (u.2.1 1250 (y : Int32).toNatClampNeg) : Int32) = 0) (c39_3 : ¬ ((u.2.1 1251 (x : Int32).toNatClampNeg) - (u.2.1 1251 (y : Int32).toNatClampNeg) : Int32) < 0) (c44_4 : ((u.2.1 1251 (x : Int32).toNatClampNeg) - (u.2.1 1251 (y : Int32).toNatClampNeg) : Int32) = 0) (c49_5 : y ≤ (x : Int32)) : (0 : Int32) = 1 ∨ (0 : Int32) = 0 := by
  first | omega | ((try simp only [Int32.lt_iff_toInt_lt, Int32.le_iff_toInt_le, ← Int32.toInt_inj, Int32.toInt_add, Int32.toInt_sub, Int32.toInt_mul, Int32.toInt_neg, Int32.reduceToInt, g_bm, g_bm'] at *); omega) | (simp only [Int32.lt_iff_toInt_lt, Int32.le_iff_toInt_le, ← Int32.toInt_inj, Int32.toInt_add, Int32.toInt_sub, Int32.toInt_mul, Int32.toInt_neg, Int32.reduceToInt, g_bm, g_bm'] at *; simp at *; omega) | (simp_all; done)
set_option maxRecDepth 100000 in
theorem g_X12_isAhead_v9 (u : qS) (x : Int32) (y : Int32) (hx : 0 ≤ x ∧ x < u.1 1247) (hy : 0 ≤ y ∧ y < u.1 1247) (hys : u.1 1247 ≤ 120) (c30_1 : ¬ ((u.2.1 1250 (x : Int32).toNatClampNeg) - (u.2.1 1250 (y : Int32).toNatClampNeg) : Int32) < 0) (c34_2 : ((u.2.1 1250 (x : Int32).toNatClampNeg) - (u.2.1 1250 (y : Int32).toNatClampNeg) : Int32) = 0) (c39_3 : ¬ ((u.2.1 1251 (x : Int32).toNatClampNeg) - (u.2.1 1251 (y : Int32).toNatClampNeg) : Int32) < 0) (c44_4 : ((u.2.1 1251 (x : Int32).toNatClampNeg) - (u.2.1 1251 (y : Int32).toNatClampNeg) : Int32) = 0) (c49_5 : ¬ y ≤ (x : Int32)) : (1 : Int32) = 1 ∨ (1 : Int32) = 0 := by
  first | omega | ((try simp only [Int32.lt_iff_toInt_lt, Int32.le_iff_toInt_le, ← Int32.toInt_inj, Int32.toInt_add, Int32.toInt_sub, Int32.toInt_mul, Int32.toInt_neg, Int32.reduceToInt, g_bm, g_bm'] at *); omega) | (simp only [Int32.lt_iff_toInt_lt, Int32.le_iff_toInt_le, ← Int32.toInt_inj, Int32.toInt_add, Int32.toInt_sub, Int32.toInt_mul, Int32.toInt_neg, Int32.reduceToInt, g_bm, g_bm'] at *; simp at *; omega) | (simp_all; done)
set_option maxHeartbeats 1000000 in
set_option maxRecDepth 100000 in
theorem g_X12_isAhead (l : Launch) (E : qE) (A : Nat → Prop) (u : qS) (x : Int32) (y : Int32) (hx : 0 ≤ x ∧ x < u.1 1247) (hy : 0 ≤ y ∧ y < u.1 1247) (hys : u.1 1247 ≤ 120) : Met l yX12_isAhead (uws yX12_isAhead cX12_isAhead 5 (some .boolean)) (qR 0 0 0) (qPc E A 1 u [.ref (E.2.2 1299), .int x, .int y]) (qQi E A 1 (fun r u1 => u1 = u ∧ (r = 1 ∨ r = 0))) 0 0 A := by
  refine q_met (own := RX12) (f := 0) [.ref (E.2.2 1299), .int x, .int y] (by decide) (Nat.le_of_ble_eq_true rfl) rfl ?_
  intro p0 e0 s0 m0 bl0 me0 cd0 ls hF hr hlocks hU hS hA hl
  have hl : lv_has ls 5 [(0, .ref (E.2.2 1299)), (1, .int x), (2, .int y)] := hl
  refine lv_aload_n hF.1 hF.2.1 dX12_isAhead_0 rfl (lv_at hl 0 rfl) ?_
  refine q_get (v := .ref (E.2.2 1250)) hF hU dX12_isAhead_1 0 12 50 1250 1299 rfl rfl rfl rfl inX12 (by decide) (by decide) w_1382 rfl rfl ?_
  refine lv_iload_n hF.1 hF.2.1 dX12_isAhead_4 rfl (lv_at hl 1 rfl) ?_
  refine q_iald (v := u.2.1 1250 (x : Int32).toNatClampNeg) hF hU dX12_isAhead_5 29 1250 rfl rfl (g_X12_isAhead_v0 u x y hx hy hys) rfl ?_
  refine lv_aload_n hF.1 hF.2.1 dX12_isAhead_6 rfl (lv_at hl 0 rfl) ?_
  refine q_get (v := .ref (E.2.2 1250)) hF hU dX12_isAhead_7 0 12 50 1250 1299 rfl rfl rfl rfl inX12 (by decide) (by decide) w_1382 rfl rfl ?_
  refine lv_iload_n hF.1 hF.2.1 dX12_isAhead_10 rfl (lv_at hl 2 rfl) ?_
  refine q_iald (v := u.2.1 1250 (y : Int32).toNatClampNeg) hF hU dX12_isAhead_11 29 1250 rfl rfl (g_X12_isAhead_v1 u x y hx hy hys) rfl ?_
  refine lv_isub hF.1 hF.2.1 dX12_isAhead_12 ?_
  refine lv_istore_n (lv' := [(3, .int ((u.2.1 1250 (x : Int32).toNatClampNeg) - (u.2.1 1250 (y : Int32).toNatClampNeg))), (0, .ref (E.2.2 1299)), (1, .int x), (2, .int y)]) hF.1 hF.2.1 dX12_isAhead_13 rfl hl (by decide) rfl (fun ls hl => ?_)
  refine lv_aload_n hF.1 hF.2.1 dX12_isAhead_14 rfl (lv_at hl 1 rfl) ?_
  refine q_get (v := .ref (E.2.2 1251)) hF hU dX12_isAhead_15 0 12 51 1251 1299 rfl rfl rfl rfl inX12 (by decide) (by decide) w_1383 rfl rfl ?_
  refine lv_iload_n hF.1 hF.2.1 dX12_isAhead_18 rfl (lv_at hl 2 rfl) ?_
  refine q_iald (v := u.2.1 1251 (x : Int32).toNatClampNeg) hF hU dX12_isAhead_19 30 1251 rfl rfl (g_X12_isAhead_v2 u x y hx hy hys) rfl ?_
  refine lv_aload_n hF.1 hF.2.1 dX12_isAhead_20 rfl (lv_at hl 1 rfl) ?_
  refine q_get (v := .ref (E.2.2 1251)) hF hU dX12_isAhead_21 0 12 51 1251 1299 rfl rfl rfl rfl inX12 (by decide) (by decide) w_1383 rfl rfl ?_
  refine lv_iload_n hF.1 hF.2.1 dX12_isAhead_24 rfl (lv_at hl 3 rfl) ?_
  refine q_iald (v := u.2.1 1251 (y : Int32).toNatClampNeg) hF hU dX12_isAhead_25 30 1251 rfl rfl (g_X12_isAhead_v3 u x y hx hy hys) rfl ?_
  refine lv_isub hF.1 hF.2.1 dX12_isAhead_26 ?_
  refine lv_istore (lv' := [(4, .int ((u.2.1 1251 (x : Int32).toNatClampNeg) - (u.2.1 1251 (y : Int32).toNatClampNeg))), (3, .int ((u.2.1 1250 (x : Int32).toNatClampNeg) - (u.2.1 1250 (y : Int32).toNatClampNeg))), (0, .ref (E.2.2 1299)), (1, .int x), (2, .int y)]) hF.1 hF.2.1 dX12_isAhead_27 hl (by decide) rfl (fun ls hl => ?_)
  refine lv_iload_n hF.1 hF.2.1 dX12_isAhead_29 rfl (lv_at hl 1 rfl) ?_
  refine lv_if_lt (tgt := 52) hF.1 hF.2.1 dX12_isAhead_30 (by decide) (fun c30_1 => ?_) (fun c30_1 => ?_)
  · refine lv_iconst (v := 1) hF.1 hF.2.1 dX12_isAhead_52 (by decide) ?_
    refine lv_goto (tgt := 57) hF.1 hF.2.1 dX12_isAhead_53 (by decide) ?_
    exact q_iret hF hr (by decide) hlocks hU hS dX12_isAhead_57 ⟨rfl, (g_X12_isAhead_v4 u x y hx hy hys c30_1)⟩
  · refine lv_iload_n hF.1 hF.2.1 dX12_isAhead_33 rfl (lv_at hl 1 rfl) ?_
    refine lv_if_ne (tgt := 56) hF.1 hF.2.1 dX12_isAhead_34 (by decide) (fun c34_2 => ?_) (fun c34_2 => ?_)
    · refine lv_iconst (v := 0) hF.1 hF.2.1 dX12_isAhead_56 (by decide) ?_
      exact q_iret hF hr (by decide) hlocks hU hS dX12_isAhead_57 ⟨rfl, (g_X12_isAhead_v5 u x y hx hy hys c30_1 c34_2)⟩
    · refine lv_iload hF.1 hF.2.1 dX12_isAhead_37 (lv_at hl 0 rfl) ?_
      refine lv_if_lt (tgt := 52) hF.1 hF.2.1 dX12_isAhead_39 (by decide) (fun c39_3 => ?_) (fun c39_3 => ?_)
      · refine lv_iconst (v := 1) hF.1 hF.2.1 dX12_isAhead_52 (by decide) ?_
        refine lv_goto (tgt := 57) hF.1 hF.2.1 dX12_isAhead_53 (by decide) ?_
        exact q_iret hF hr (by decide) hlocks hU hS dX12_isAhead_57 ⟨rfl, (g_X12_isAhead_v6 u x y hx hy hys c30_1 c34_2 c39_3)⟩
      · refine lv_iload hF.1 hF.2.1 dX12_isAhead_42 (lv_at hl 0 rfl) ?_
        refine lv_if_ne (tgt := 56) hF.1 hF.2.1 dX12_isAhead_44 (by decide) (fun c44_4 => ?_) (fun c44_4 => ?_)
        · refine lv_iconst (v := 0) hF.1 hF.2.1 dX12_isAhead_56 (by decide) ?_
          exact q_iret hF hr (by decide) hlocks hU hS dX12_isAhead_57 ⟨rfl, (g_X12_isAhead_v7 u x y hx hy hys c30_1 c34_2 c39_3 c44_4)⟩
        · refine lv_iload_n hF.1 hF.2.1 dX12_isAhead_47 rfl (lv_at hl 3 rfl) ?_
          refine lv_iload_n hF.1 hF.2.1 dX12_isAhead_48 rfl (lv_at hl 4 rfl) ?_
          refine lv_icmp_ge (tgt := 56) hF.1 hF.2.1 dX12_isAhead_49 (by decide) (fun c49_5 => ?_) (fun c49_5 => ?_)
          · refine lv_iconst (v := 0) hF.1 hF.2.1 dX12_isAhead_56 (by decide) ?_
            exact q_iret hF hr (by decide) hlocks hU hS dX12_isAhead_57 ⟨rfl, (g_X12_isAhead_v8 u x y hx hy hys c30_1 c34_2 c39_3 c44_4 c49_5)⟩
          · refine lv_iconst (v := 1) hF.1 hF.2.1 dX12_isAhead_52 (by decide) ?_
            refine lv_goto (tgt := 57) hF.1 hF.2.1 dX12_isAhead_53 (by decide) ?_
            exact q_iret hF hr (by decide) hlocks hU hS dX12_isAhead_57 ⟨rfl, (g_X12_isAhead_v9 u x y hx hy hys c30_1 c34_2 c39_3 c44_4 c49_5)⟩
set_option maxRecDepth 100000 in
theorem g_X12_briefOf_v0 (u : qS) (x : Int32) (x2 : Int32) (x3 : Int32) (hI : IM u) (hv : 0 ≤ x ∧ x < u.1 1247) (hvs : u.1 1247 ≤ 120) (h_k : 0 ≤ x3) (h_f : -1 ≤ x2) (h_g : x2 < u.1 1210) (hs_1 : 0 ≤ u.1 1210 ∧ u.1 1210 ≤ 16) (c9_2 : (u.1 1210) ≤ (x3 : Int32)) : -1 ≤ (x2 : Int32) ∧ (x2 : Int32) < u.1 1210 := by
  have hz1247 := hI.1.s1247
  first | omega | ((try simp only [Int32.lt_iff_toInt_lt, Int32.le_iff_toInt_le, ← Int32.toInt_inj, Int32.toInt_add, Int32.toInt_sub, Int32.toInt_mul, Int32.toInt_neg, Int32.reduceToInt, g_bm, g_bm'] at *); omega) | (simp only [Int32.lt_iff_toInt_lt, Int32.le_iff_toInt_le, ← Int32.toInt_inj, Int32.toInt_add, Int32.toInt_sub, Int32.toInt_mul, Int32.toInt_neg, Int32.reduceToInt, g_bm, g_bm'] at *; simp at *; omega) | (simp_all; done)
set_option maxRecDepth 100000 in
theorem g_X12_briefOf_v1 (u : qS) (x : Int32) (x2 : Int32) (x3 : Int32) (hI : IM u) (hv : 0 ≤ x ∧ x < u.1 1247) (hvs : u.1 1247 ≤ 120) (h_k : 0 ≤ x3) (h_f : -1 ≤ x2) (h_g : x2 < u.1 1210) (hs_1 : 0 ≤ u.1 1210 ∧ u.1 1210 ≤ 16) (c9_2 : ¬ (u.1 1210) ≤ (x3 : Int32)) : vp_in (x3) 17 := by
  have hz1247 := hI.1.s1247
  refine g_in ?_ ?_ <;> ((try simp only [Int32.lt_iff_toInt_lt, Int32.le_iff_toInt_le, ← Int32.toInt_inj, Int32.toInt_add, Int32.toInt_sub, Int32.toInt_mul, Int32.toInt_neg, Int32.reduceToInt, g_bm, g_bm'] at *); omega)
set_option maxRecDepth 100000 in
theorem g_X12_briefOf_v2 (u : qS) (x : Int32) (x2 : Int32) (x3 : Int32) (hI : IM u) (hv : 0 ≤ x ∧ x < u.1 1247) (hvs : u.1 1247 ≤ 120) (h_k : 0 ≤ x3) (h_f : -1 ≤ x2) (h_g : x2 < u.1 1210) (hs_1 : 0 ≤ u.1 1210 ∧ u.1 1210 ≤ 16) (c9_2 : ¬ (u.1 1210) ≤ (x3 : Int32)) : vp_in (x) 120 := by
  have hz1247 := hI.1.s1247
  refine g_in ?_ ?_ <;> ((try simp only [Int32.lt_iff_toInt_lt, Int32.le_iff_toInt_le, ← Int32.toInt_inj, Int32.toInt_add, Int32.toInt_sub, Int32.toInt_mul, Int32.toInt_neg, Int32.reduceToInt, g_bm, g_bm'] at *); omega)
set_option maxRecDepth 100000 in
theorem g_X12_briefOf_v3 (u : qS) (x : Int32) (x2 : Int32) (x3 : Int32) (hI : IM u) (hv : 0 ≤ x ∧ x < u.1 1247) (hvs : u.1 1247 ≤ 120) (h_k : 0 ≤ x3) (h_f : -1 ≤ x2) (h_g : x2 < u.1 1210) (hs_1 : 0 ≤ u.1 1210 ∧ u.1 1210 ≤ 16) (c9_2 : ¬ (u.1 1210) ≤ (x3 : Int32)) : 0 ≤ x ∧ x < u.1 1247 := by
  have hz1247 := hI.1.s1247
  first | omega | ((try simp only [Int32.lt_iff_toInt_lt, Int32.le_iff_toInt_le, ← Int32.toInt_inj, Int32.toInt_add, Int32.toInt_sub, Int32.toInt_mul, Int32.toInt_neg, Int32.reduceToInt, g_bm, g_bm'] at *); omega) | (simp only [Int32.lt_iff_toInt_lt, Int32.le_iff_toInt_le, ← Int32.toInt_inj, Int32.toInt_add, Int32.toInt_sub, Int32.toInt_mul, Int32.toInt_neg, Int32.reduceToInt, g_bm, g_bm'] at *; simp at *; omega) | (simp_all; done)
set_option maxRecDepth 100000 in
theorem g_X12_briefOf_v4 (u : qS) (x : Int32) (x2 : Int32) (x3 : Int32) (hI : IM u) (hv : 0 ≤ x ∧ x < u.1 1247) (hvs : u.1 1247 ≤ 120) (h_k : 0 ≤ x3) (h_f : -1 ≤ x2) (h_g : x2 < u.1 1210) (hs_1 : 0 ≤ u.1 1210 ∧ u.1 1210 ≤ 16) (c9_2 : ¬ (u.1 1210) ≤ (x3 : Int32)) (hb_3 : 0 ≤ (u.2.1 1248 (x : Int32).toNatClampNeg) ∧ (u.2.1 1248 (x : Int32).toNatClampNeg) < u.1 1232) (hs_4 : 0 ≤ u.1 1232 ∧ u.1 1232 ≤ 20) : vp_in (u.2.1 1248 (x : Int32).toNatClampNeg) 20 := by
  have hz1247 := hI.1.s1247
  refine g_in ?_ ?_ <;> ((try simp only [Int32.lt_iff_toInt_lt, Int32.le_iff_toInt_le, ← Int32.toInt_inj, Int32.toInt_add, Int32.toInt_sub, Int32.toInt_mul, Int32.toInt_neg, Int32.reduceToInt, g_bm, g_bm'] at *); omega)
set_option maxRecDepth 100000 in
theorem g_X12_briefOf_v5 (u : qS) (x : Int32) (x2 : Int32) (x3 : Int32) (hI : IM u) (hv : 0 ≤ x ∧ x < u.1 1247) (hvs : u.1 1247 ≤ 120) (h_k : 0 ≤ x3) (h_f : -1 ≤ x2) (h_g : x2 < u.1 1210) (hs_1 : 0 ≤ u.1 1210 ∧ u.1 1210 ≤ 16) (c9_2 : ¬ (u.1 1210) ≤ (x3 : Int32)) (hb_3 : 0 ≤ (u.2.1 1248 (x : Int32).toNatClampNeg) ∧ (u.2.1 1248 (x : Int32).toNatClampNeg) < u.1 1232) (hs_4 : 0 ≤ u.1 1232 ∧ u.1 1232 ≤ 20) (c29_5 : ¬ (u.2.1 1211 (x3 : Int32).toNatClampNeg : Int32) = (u.2.1 1235 (u.2.1 1248 (x : Int32).toNatClampNeg : Int32).toNatClampNeg)) : 0 ≤ (x3 + 1) := by
  have hz1247 := hI.1.s1247
  first | omega | ((try simp only [Int32.lt_iff_toInt_lt, Int32.le_iff_toInt_le, ← Int32.toInt_inj, Int32.toInt_add, Int32.toInt_sub, Int32.toInt_mul, Int32.toInt_neg, Int32.reduceToInt, g_bm, g_bm'] at *); omega) | (simp only [Int32.lt_iff_toInt_lt, Int32.le_iff_toInt_le, ← Int32.toInt_inj, Int32.toInt_add, Int32.toInt_sub, Int32.toInt_mul, Int32.toInt_neg, Int32.reduceToInt, g_bm, g_bm'] at *; simp at *; omega) | (simp_all; done)
set_option maxRecDepth 100000 in
theorem g_X12_briefOf_v6 (u : qS) (x : Int32) (x2 : Int32) (x3 : Int32) (hI : IM u) (hv : 0 ≤ x ∧ x < u.1 1247) (hvs : u.1 1247 ≤ 120) (h_k : 0 ≤ x3) (h_f : -1 ≤ x2) (h_g : x2 < u.1 1210) (hs_1 : 0 ≤ u.1 1210 ∧ u.1 1210 ≤ 16) (c9_2 : ¬ (u.1 1210) ≤ (x3 : Int32)) (hb_3 : 0 ≤ (u.2.1 1248 (x : Int32).toNatClampNeg) ∧ (u.2.1 1248 (x : Int32).toNatClampNeg) < u.1 1232) (hs_4 : 0 ≤ u.1 1232 ∧ u.1 1232 ≤ 20) (c29_5 : ¬ (u.2.1 1211 (x3 : Int32).toNatClampNeg : Int32) = (u.2.1 1235 (u.2.1 1248 (x : Int32).toNatClampNeg : Int32).toNatClampNeg)) : -1 ≤ x2 := by
  have hz1247 := hI.1.s1247
  first | omega | ((try simp only [Int32.lt_iff_toInt_lt, Int32.le_iff_toInt_le, ← Int32.toInt_inj, Int32.toInt_add, Int32.toInt_sub, Int32.toInt_mul, Int32.toInt_neg, Int32.reduceToInt, g_bm, g_bm'] at *); omega) | (simp only [Int32.lt_iff_toInt_lt, Int32.le_iff_toInt_le, ← Int32.toInt_inj, Int32.toInt_add, Int32.toInt_sub, Int32.toInt_mul, Int32.toInt_neg, Int32.reduceToInt, g_bm, g_bm'] at *; simp at *; omega) | (simp_all; done)
set_option maxRecDepth 100000 in
theorem g_X12_briefOf_v7 (u : qS) (x : Int32) (x2 : Int32) (x3 : Int32) (hI : IM u) (hv : 0 ≤ x ∧ x < u.1 1247) (hvs : u.1 1247 ≤ 120) (h_k : 0 ≤ x3) (h_f : -1 ≤ x2) (h_g : x2 < u.1 1210) (hs_1 : 0 ≤ u.1 1210 ∧ u.1 1210 ≤ 16) (c9_2 : ¬ (u.1 1210) ≤ (x3 : Int32)) (hb_3 : 0 ≤ (u.2.1 1248 (x : Int32).toNatClampNeg) ∧ (u.2.1 1248 (x : Int32).toNatClampNeg) < u.1 1232) (hs_4 : 0 ≤ u.1 1232 ∧ u.1 1232 ≤ 20) (c29_5 : ¬ (u.2.1 1211 (x3 : Int32).toNatClampNeg : Int32) = (u.2.1 1235 (u.2.1 1248 (x : Int32).toNatClampNeg : Int32).toNatClampNeg)) : x2 < u.1 1210 := by
  have hz1247 := hI.1.s1247
  first | omega | ((try simp only [Int32.lt_iff_toInt_lt, Int32.le_iff_toInt_le, ← Int32.toInt_inj, Int32.toInt_add, Int32.toInt_sub, Int32.toInt_mul, Int32.toInt_neg, Int32.reduceToInt, g_bm, g_bm'] at *); omega) | (simp only [Int32.lt_iff_toInt_lt, Int32.le_iff_toInt_le, ← Int32.toInt_inj, Int32.toInt_add, Int32.toInt_sub, Int32.toInt_mul, Int32.toInt_neg, Int32.reduceToInt, g_bm, g_bm'] at *; simp at *; omega) | (simp_all; done)
set_option maxRecDepth 100000 in
theorem g_X12_briefOf_v8 (u : qS) (x : Int32) (x2 : Int32) (x3 : Int32) (hI : IM u) (hv : 0 ≤ x ∧ x < u.1 1247) (hvs : u.1 1247 ≤ 120) (h_k : 0 ≤ x3) (h_f : -1 ≤ x2) (h_g : x2 < u.1 1210) (hs_1 : 0 ≤ u.1 1210 ∧ u.1 1210 ≤ 16) (c9_2 : ¬ (u.1 1210) ≤ (x3 : Int32)) (hb_3 : 0 ≤ (u.2.1 1248 (x : Int32).toNatClampNeg) ∧ (u.2.1 1248 (x : Int32).toNatClampNeg) < u.1 1232) (hs_4 : 0 ≤ u.1 1232 ∧ u.1 1232 ≤ 20) (c29_5 : ¬ (u.2.1 1211 (x3 : Int32).toNatClampNeg : Int32) = (u.2.1 1235 (u.2.1 1248 (x : Int32).toNatClampNeg : Int32).toNatClampNeg)) : ((u.1 1210).toInt - (x3 + 1).toInt).toNat < ((u.1 1210).toInt - x3.toInt).toNat := by
  have hz1247 := hI.1.s1247
  first | omega | ((try simp only [Int32.lt_iff_toInt_lt, Int32.le_iff_toInt_le, ← Int32.toInt_inj, Int32.toInt_add, Int32.toInt_sub, Int32.toInt_mul, Int32.toInt_neg, Int32.reduceToInt, g_bm, g_bm'] at *); omega) | (simp only [Int32.lt_iff_toInt_lt, Int32.le_iff_toInt_le, ← Int32.toInt_inj, Int32.toInt_add, Int32.toInt_sub, Int32.toInt_mul, Int32.toInt_neg, Int32.reduceToInt, g_bm, g_bm'] at *; simp at *; omega) | (simp_all; done)
set_option maxRecDepth 100000 in
theorem g_X12_briefOf_v9 (u : qS) (x : Int32) (x2 : Int32) (x3 : Int32) (hI : IM u) (hv : 0 ≤ x ∧ x < u.1 1247) (hvs : u.1 1247 ≤ 120) (h_k : 0 ≤ x3) (h_f : -1 ≤ x2) (h_g : x2 < u.1 1210) (hs_1 : 0 ≤ u.1 1210 ∧ u.1 1210 ≤ 16) (c9_2 : ¬ (u.1 1210) ≤ (x3 : Int32)) (hb_3 : 0 ≤ (u.2.1 1248 (x : Int32).toNatClampNeg) ∧ (u.2.1 1248 (x : Int32).toNatClampNeg) < u.1 1232) (hs_4 : 0 ≤ u.1 1232 ∧ u.1 1232 ≤ 20) (c29_5 : (u.2.1 1211 (x3 : Int32).toNatClampNeg : Int32) = (u.2.1 1235 (u.2.1 1248 (x : Int32).toNatClampNeg : Int32).toNatClampNeg)) : vp_in (x3) 17 := by
  have hz1247 := hI.1.s1247
  refine g_in ?_ ?_ <;> ((try simp only [Int32.lt_iff_toInt_lt, Int32.le_iff_toInt_le, ← Int32.toInt_inj, Int32.toInt_add, Int32.toInt_sub, Int32.toInt_mul, Int32.toInt_neg, Int32.reduceToInt, g_bm, g_bm'] at *); omega)
set_option maxRecDepth 100000 in
theorem g_X12_briefOf_v10 (u : qS) (x : Int32) (x2 : Int32) (x3 : Int32) (r_8 : Int32) (hI : IM u) (hv : 0 ≤ x ∧ x < u.1 1247) (hvs : u.1 1247 ≤ 120) (h_k : 0 ≤ x3) (h_f : -1 ≤ x2) (h_g : x2 < u.1 1210) (hs_1 : 0 ≤ u.1 1210 ∧ u.1 1210 ≤ 16) (c9_2 : ¬ (u.1 1210) ≤ (x3 : Int32)) (hb_3 : 0 ≤ (u.2.1 1248 (x : Int32).toNatClampNeg) ∧ (u.2.1 1248 (x : Int32).toNatClampNeg) < u.1 1232) (hs_4 : 0 ≤ u.1 1232 ∧ u.1 1232 ≤ 20) (c29_5 : (u.2.1 1211 (x3 : Int32).toNatClampNeg : Int32) = (u.2.1 1235 (u.2.1 1248 (x : Int32).toNatClampNeg : Int32).toNatClampNeg)) (c42_9 : r_8 < (u.2.1 1213 (x3 : Int32).toNatClampNeg : Int32)) : 0 ≤ (x3 + 1) := by
  have hz1247 := hI.1.s1247
  first | omega | ((try simp only [Int32.lt_iff_toInt_lt, Int32.le_iff_toInt_le, ← Int32.toInt_inj, Int32.toInt_add, Int32.toInt_sub, Int32.toInt_mul, Int32.toInt_neg, Int32.reduceToInt, g_bm, g_bm'] at *); omega) | (simp only [Int32.lt_iff_toInt_lt, Int32.le_iff_toInt_le, ← Int32.toInt_inj, Int32.toInt_add, Int32.toInt_sub, Int32.toInt_mul, Int32.toInt_neg, Int32.reduceToInt, g_bm, g_bm'] at *; simp at *; omega) | (simp_all; done)
set_option maxRecDepth 100000 in
theorem g_X12_briefOf_v11 (u : qS) (x : Int32) (x2 : Int32) (x3 : Int32) (r_8 : Int32) (hI : IM u) (hv : 0 ≤ x ∧ x < u.1 1247) (hvs : u.1 1247 ≤ 120) (h_k : 0 ≤ x3) (h_f : -1 ≤ x2) (h_g : x2 < u.1 1210) (hs_1 : 0 ≤ u.1 1210 ∧ u.1 1210 ≤ 16) (c9_2 : ¬ (u.1 1210) ≤ (x3 : Int32)) (hb_3 : 0 ≤ (u.2.1 1248 (x : Int32).toNatClampNeg) ∧ (u.2.1 1248 (x : Int32).toNatClampNeg) < u.1 1232) (hs_4 : 0 ≤ u.1 1232 ∧ u.1 1232 ≤ 20) (c29_5 : (u.2.1 1211 (x3 : Int32).toNatClampNeg : Int32) = (u.2.1 1235 (u.2.1 1248 (x : Int32).toNatClampNeg : Int32).toNatClampNeg)) (c42_9 : r_8 < (u.2.1 1213 (x3 : Int32).toNatClampNeg : Int32)) : -1 ≤ x2 := by
  have hz1247 := hI.1.s1247
  first | omega | ((try simp only [Int32.lt_iff_toInt_lt, Int32.le_iff_toInt_le, ← Int32.toInt_inj, Int32.toInt_add, Int32.toInt_sub, Int32.toInt_mul, Int32.toInt_neg, Int32.reduceToInt, g_bm, g_bm'] at *); omega) | (simp only [Int32.lt_iff_toInt_lt, Int32.le_iff_toInt_le, ← Int32.toInt_inj, Int32.toInt_add, Int32.toInt_sub, Int32.toInt_mul, Int32.toInt_neg, Int32.reduceToInt, g_bm, g_bm'] at *; simp at *; omega) | (simp_all; done)
set_option maxRecDepth 100000 in
theorem g_X12_briefOf_v12 (u : qS) (x : Int32) (x2 : Int32) (x3 : Int32) (r_8 : Int32) (hI : IM u) (hv : 0 ≤ x ∧ x < u.1 1247) (hvs : u.1 1247 ≤ 120) (h_k : 0 ≤ x3) (h_f : -1 ≤ x2) (h_g : x2 < u.1 1210) (hs_1 : 0 ≤ u.1 1210 ∧ u.1 1210 ≤ 16) (c9_2 : ¬ (u.1 1210) ≤ (x3 : Int32)) (hb_3 : 0 ≤ (u.2.1 1248 (x : Int32).toNatClampNeg) ∧ (u.2.1 1248 (x : Int32).toNatClampNeg) < u.1 1232) (hs_4 : 0 ≤ u.1 1232 ∧ u.1 1232 ≤ 20) (c29_5 : (u.2.1 1211 (x3 : Int32).toNatClampNeg : Int32) = (u.2.1 1235 (u.2.1 1248 (x : Int32).toNatClampNeg : Int32).toNatClampNeg)) (c42_9 : r_8 < (u.2.1 1213 (x3 : Int32).toNatClampNeg : Int32)) : x2 < u.1 1210 := by
  have hz1247 := hI.1.s1247
  first | omega | ((try simp only [Int32.lt_iff_toInt_lt, Int32.le_iff_toInt_le, ← Int32.toInt_inj, Int32.toInt_add, Int32.toInt_sub, Int32.toInt_mul, Int32.toInt_neg, Int32.reduceToInt, g_bm, g_bm'] at *); omega) | (simp only [Int32.lt_iff_toInt_lt, Int32.le_iff_toInt_le, ← Int32.toInt_inj, Int32.toInt_add, Int32.toInt_sub, Int32.toInt_mul, Int32.toInt_neg, Int32.reduceToInt, g_bm, g_bm'] at *; simp at *; omega) | (simp_all; done)
set_option maxRecDepth 100000 in
theorem g_X12_briefOf_v13 (u : qS) (x : Int32) (x2 : Int32) (x3 : Int32) (r_8 : Int32) (hI : IM u) (hv : 0 ≤ x ∧ x < u.1 1247) (hvs : u.1 1247 ≤ 120) (h_k : 0 ≤ x3) (h_f : -1 ≤ x2) (h_g : x2 < u.1 1210) (hs_1 : 0 ≤ u.1 1210 ∧ u.1 1210 ≤ 16) (c9_2 : ¬ (u.1 1210) ≤ (x3 : Int32)) (hb_3 : 0 ≤ (u.2.1 1248 (x : Int32).toNatClampNeg) ∧ (u.2.1 1248 (x : Int32).toNatClampNeg) < u.1 1232) (hs_4 : 0 ≤ u.1 1232 ∧ u.1 1232 ≤ 20) (c29_5 : (u.2.1 1211 (x3 : Int32).toNatClampNeg : Int32) = (u.2.1 1235 (u.2.1 1248 (x : Int32).toNatClampNeg : Int32).toNatClampNeg)) (c42_9 : r_8 < (u.2.1 1213 (x3 : Int32).toNatClampNeg : Int32)) : ((u.1 1210).toInt - (x3 + 1).toInt).toNat < ((u.1 1210).toInt - x3.toInt).toNat := by
  have hz1247 := hI.1.s1247
  first | omega | ((try simp only [Int32.lt_iff_toInt_lt, Int32.le_iff_toInt_le, ← Int32.toInt_inj, Int32.toInt_add, Int32.toInt_sub, Int32.toInt_mul, Int32.toInt_neg, Int32.reduceToInt, g_bm, g_bm'] at *); omega) | (simp only [Int32.lt_iff_toInt_lt, Int32.le_iff_toInt_le, ← Int32.toInt_inj, Int32.toInt_add, Int32.toInt_sub, Int32.toInt_mul, Int32.toInt_neg, Int32.reduceToInt, g_bm, g_bm'] at *; simp at *; omega) | (simp_all; done)
set_option maxRecDepth 100000 in
theorem g_X12_briefOf_v14 (u : qS) (x : Int32) (x2 : Int32) (x3 : Int32) (r_8 : Int32) (hI : IM u) (hv : 0 ≤ x ∧ x < u.1 1247) (hvs : u.1 1247 ≤ 120) (h_k : 0 ≤ x3) (h_f : -1 ≤ x2) (h_g : x2 < u.1 1210) (hs_1 : 0 ≤ u.1 1210 ∧ u.1 1210 ≤ 16) (c9_2 : ¬ (u.1 1210) ≤ (x3 : Int32)) (hb_3 : 0 ≤ (u.2.1 1248 (x : Int32).toNatClampNeg) ∧ (u.2.1 1248 (x : Int32).toNatClampNeg) < u.1 1232) (hs_4 : 0 ≤ u.1 1232 ∧ u.1 1232 ≤ 20) (c29_5 : (u.2.1 1211 (x3 : Int32).toNatClampNeg : Int32) = (u.2.1 1235 (u.2.1 1248 (x : Int32).toNatClampNeg : Int32).toNatClampNeg)) (c42_9 : ¬ r_8 < (u.2.1 1213 (x3 : Int32).toNatClampNeg : Int32)) : vp_in (x3) 17 := by
  have hz1247 := hI.1.s1247
  refine g_in ?_ ?_ <;> ((try simp only [Int32.lt_iff_toInt_lt, Int32.le_iff_toInt_le, ← Int32.toInt_inj, Int32.toInt_add, Int32.toInt_sub, Int32.toInt_mul, Int32.toInt_neg, Int32.reduceToInt, g_bm, g_bm'] at *); omega)
set_option maxRecDepth 100000 in
theorem g_X12_briefOf_v15 (u : qS) (x : Int32) (x2 : Int32) (x3 : Int32) (r_8 : Int32) (hI : IM u) (hv : 0 ≤ x ∧ x < u.1 1247) (hvs : u.1 1247 ≤ 120) (h_k : 0 ≤ x3) (h_f : -1 ≤ x2) (h_g : x2 < u.1 1210) (hs_1 : 0 ≤ u.1 1210 ∧ u.1 1210 ≤ 16) (c9_2 : ¬ (u.1 1210) ≤ (x3 : Int32)) (hb_3 : 0 ≤ (u.2.1 1248 (x : Int32).toNatClampNeg) ∧ (u.2.1 1248 (x : Int32).toNatClampNeg) < u.1 1232) (hs_4 : 0 ≤ u.1 1232 ∧ u.1 1232 ≤ 20) (c29_5 : (u.2.1 1211 (x3 : Int32).toNatClampNeg : Int32) = (u.2.1 1235 (u.2.1 1248 (x : Int32).toNatClampNeg : Int32).toNatClampNeg)) (c42_9 : ¬ r_8 < (u.2.1 1213 (x3 : Int32).toNatClampNeg : Int32)) : vp_in (x) 120 := by
  have hz1247 := hI.1.s1247
  refine g_in ?_ ?_ <;> ((try simp only [Int32.lt_iff_toInt_lt, Int32.le_iff_toInt_le, ← Int32.toInt_inj, Int32.toInt_add, Int32.toInt_sub, Int32.toInt_mul, Int32.toInt_neg, Int32.reduceToInt, g_bm, g_bm'] at *); omega)
set_option maxRecDepth 100000 in
theorem g_X12_briefOf_v16 (u : qS) (x : Int32) (x2 : Int32) (x3 : Int32) (r_8 : Int32) (hI : IM u) (hv : 0 ≤ x ∧ x < u.1 1247) (hvs : u.1 1247 ≤ 120) (h_k : 0 ≤ x3) (h_f : -1 ≤ x2) (h_g : x2 < u.1 1210) (hs_1 : 0 ≤ u.1 1210 ∧ u.1 1210 ≤ 16) (c9_2 : ¬ (u.1 1210) ≤ (x3 : Int32)) (hb_3 : 0 ≤ (u.2.1 1248 (x : Int32).toNatClampNeg) ∧ (u.2.1 1248 (x : Int32).toNatClampNeg) < u.1 1232) (hs_4 : 0 ≤ u.1 1232 ∧ u.1 1232 ≤ 20) (c29_5 : (u.2.1 1211 (x3 : Int32).toNatClampNeg : Int32) = (u.2.1 1235 (u.2.1 1248 (x : Int32).toNatClampNeg : Int32).toNatClampNeg)) (c42_9 : ¬ r_8 < (u.2.1 1213 (x3 : Int32).toNatClampNeg : Int32)) (c57_10 : (u.2.1 1250 (x : Int32).toNatClampNeg) < (u.2.1 1212 (x3 : Int32).toNatClampNeg : Int32)) : 0 ≤ (x3 + 1) := by
  have hz1247 := hI.1.s1247
  first | omega | ((try simp only [Int32.lt_iff_toInt_lt, Int32.le_iff_toInt_le, ← Int32.toInt_inj, Int32.toInt_add, Int32.toInt_sub, Int32.toInt_mul, Int32.toInt_neg, Int32.reduceToInt, g_bm, g_bm'] at *); omega) | (simp only [Int32.lt_iff_toInt_lt, Int32.le_iff_toInt_le, ← Int32.toInt_inj, Int32.toInt_add, Int32.toInt_sub, Int32.toInt_mul, Int32.toInt_neg, Int32.reduceToInt, g_bm, g_bm'] at *; simp at *; omega) | (simp_all; done)
set_option maxRecDepth 100000 in
theorem g_X12_briefOf_v17 (u : qS) (x : Int32) (x2 : Int32) (x3 : Int32) (r_8 : Int32) (hI : IM u) (hv : 0 ≤ x ∧ x < u.1 1247) (hvs : u.1 1247 ≤ 120) (h_k : 0 ≤ x3) (h_f : -1 ≤ x2) (h_g : x2 < u.1 1210) (hs_1 : 0 ≤ u.1 1210 ∧ u.1 1210 ≤ 16) (c9_2 : ¬ (u.1 1210) ≤ (x3 : Int32)) (hb_3 : 0 ≤ (u.2.1 1248 (x : Int32).toNatClampNeg) ∧ (u.2.1 1248 (x : Int32).toNatClampNeg) < u.1 1232) (hs_4 : 0 ≤ u.1 1232 ∧ u.1 1232 ≤ 20) (c29_5 : (u.2.1 1211 (x3 : Int32).toNatClampNeg : Int32) = (u.2.1 1235 (u.2.1 1248 (x : Int32).toNatClampNeg : Int32).toNatClampNeg)) (c42_9 : ¬ r_8 < (u.2.1 1213 (x3 : Int32).toNatClampNeg : Int32)) (c57_10 : (u.2.1 1250 (x : Int32).toNatClampNeg) < (u.2.1 1212 (x3 : Int32).toNatClampNeg : Int32)) : -1 ≤ x2 := by
  have hz1247 := hI.1.s1247
  first | omega | ((try simp only [Int32.lt_iff_toInt_lt, Int32.le_iff_toInt_le, ← Int32.toInt_inj, Int32.toInt_add, Int32.toInt_sub, Int32.toInt_mul, Int32.toInt_neg, Int32.reduceToInt, g_bm, g_bm'] at *); omega) | (simp only [Int32.lt_iff_toInt_lt, Int32.le_iff_toInt_le, ← Int32.toInt_inj, Int32.toInt_add, Int32.toInt_sub, Int32.toInt_mul, Int32.toInt_neg, Int32.reduceToInt, g_bm, g_bm'] at *; simp at *; omega) | (simp_all; done)
set_option maxRecDepth 100000 in
theorem g_X12_briefOf_v18 (u : qS) (x : Int32) (x2 : Int32) (x3 : Int32) (r_8 : Int32) (hI : IM u) (hv : 0 ≤ x ∧ x < u.1 1247) (hvs : u.1 1247 ≤ 120) (h_k : 0 ≤ x3) (h_f : -1 ≤ x2) (h_g : x2 < u.1 1210) (hs_1 : 0 ≤ u.1 1210 ∧ u.1 1210 ≤ 16) (c9_2 : ¬ (u.1 1210) ≤ (x3 : Int32)) (hb_3 : 0 ≤ (u.2.1 1248 (x : Int32).toNatClampNeg) ∧ (u.2.1 1248 (x : Int32).toNatClampNeg) < u.1 1232) (hs_4 : 0 ≤ u.1 1232 ∧ u.1 1232 ≤ 20) (c29_5 : (u.2.1 1211 (x3 : Int32).toNatClampNeg : Int32) = (u.2.1 1235 (u.2.1 1248 (x : Int32).toNatClampNeg : Int32).toNatClampNeg)) (c42_9 : ¬ r_8 < (u.2.1 1213 (x3 : Int32).toNatClampNeg : Int32)) (c57_10 : (u.2.1 1250 (x : Int32).toNatClampNeg) < (u.2.1 1212 (x3 : Int32).toNatClampNeg : Int32)) : x2 < u.1 1210 := by
  have hz1247 := hI.1.s1247
  first | omega | ((try simp only [Int32.lt_iff_toInt_lt, Int32.le_iff_toInt_le, ← Int32.toInt_inj, Int32.toInt_add, Int32.toInt_sub, Int32.toInt_mul, Int32.toInt_neg, Int32.reduceToInt, g_bm, g_bm'] at *); omega) | (simp only [Int32.lt_iff_toInt_lt, Int32.le_iff_toInt_le, ← Int32.toInt_inj, Int32.toInt_add, Int32.toInt_sub, Int32.toInt_mul, Int32.toInt_neg, Int32.reduceToInt, g_bm, g_bm'] at *; simp at *; omega) | (simp_all; done)
set_option maxRecDepth 100000 in
theorem g_X12_briefOf_v19 (u : qS) (x : Int32) (x2 : Int32) (x3 : Int32) (r_8 : Int32) (hI : IM u) (hv : 0 ≤ x ∧ x < u.1 1247) (hvs : u.1 1247 ≤ 120) (h_k : 0 ≤ x3) (h_f : -1 ≤ x2) (h_g : x2 < u.1 1210) (hs_1 : 0 ≤ u.1 1210 ∧ u.1 1210 ≤ 16) (c9_2 : ¬ (u.1 1210) ≤ (x3 : Int32)) (hb_3 : 0 ≤ (u.2.1 1248 (x : Int32).toNatClampNeg) ∧ (u.2.1 1248 (x : Int32).toNatClampNeg) < u.1 1232) (hs_4 : 0 ≤ u.1 1232 ∧ u.1 1232 ≤ 20) (c29_5 : (u.2.1 1211 (x3 : Int32).toNatClampNeg : Int32) = (u.2.1 1235 (u.2.1 1248 (x : Int32).toNatClampNeg : Int32).toNatClampNeg)) (c42_9 : ¬ r_8 < (u.2.1 1213 (x3 : Int32).toNatClampNeg : Int32)) (c57_10 : (u.2.1 1250 (x : Int32).toNatClampNeg) < (u.2.1 1212 (x3 : Int32).toNatClampNeg : Int32)) : ((u.1 1210).toInt - (x3 + 1).toInt).toNat < ((u.1 1210).toInt - x3.toInt).toNat := by
  have hz1247 := hI.1.s1247
  first | omega | ((try simp only [Int32.lt_iff_toInt_lt, Int32.le_iff_toInt_le, ← Int32.toInt_inj, Int32.toInt_add, Int32.toInt_sub, Int32.toInt_mul, Int32.toInt_neg, Int32.reduceToInt, g_bm, g_bm'] at *); omega) | (simp only [Int32.lt_iff_toInt_lt, Int32.le_iff_toInt_le, ← Int32.toInt_inj, Int32.toInt_add, Int32.toInt_sub, Int32.toInt_mul, Int32.toInt_neg, Int32.reduceToInt, g_bm, g_bm'] at *; simp at *; omega) | (simp_all; done)
set_option maxRecDepth 100000 in
theorem g_X12_briefOf_v20 (u : qS) (x : Int32) (x2 : Int32) (x3 : Int32) (r_8 : Int32) (hI : IM u) (hv : 0 ≤ x ∧ x < u.1 1247) (hvs : u.1 1247 ≤ 120) (h_k : 0 ≤ x3) (h_f : -1 ≤ x2) (h_g : x2 < u.1 1210) (hs_1 : 0 ≤ u.1 1210 ∧ u.1 1210 ≤ 16) (c9_2 : ¬ (u.1 1210) ≤ (x3 : Int32)) (hb_3 : 0 ≤ (u.2.1 1248 (x : Int32).toNatClampNeg) ∧ (u.2.1 1248 (x : Int32).toNatClampNeg) < u.1 1232) (hs_4 : 0 ≤ u.1 1232 ∧ u.1 1232 ≤ 20) (c29_5 : (u.2.1 1211 (x3 : Int32).toNatClampNeg : Int32) = (u.2.1 1235 (u.2.1 1248 (x : Int32).toNatClampNeg : Int32).toNatClampNeg)) (c42_9 : ¬ r_8 < (u.2.1 1213 (x3 : Int32).toNatClampNeg : Int32)) (c57_10 : ¬ (u.2.1 1250 (x : Int32).toNatClampNeg) < (u.2.1 1212 (x3 : Int32).toNatClampNeg : Int32)) (c73_11 : (x2 : Int32) < 0) : 0 ≤ (x3 + 1) := by
  have hz1247 := hI.1.s1247
  first | omega | ((try simp only [Int32.lt_iff_toInt_lt, Int32.le_iff_toInt_le, ← Int32.toInt_inj, Int32.toInt_add, Int32.toInt_sub, Int32.toInt_mul, Int32.toInt_neg, Int32.reduceToInt, g_bm, g_bm'] at *); omega) | (simp only [Int32.lt_iff_toInt_lt, Int32.le_iff_toInt_le, ← Int32.toInt_inj, Int32.toInt_add, Int32.toInt_sub, Int32.toInt_mul, Int32.toInt_neg, Int32.reduceToInt, g_bm, g_bm'] at *; simp at *; omega) | (simp_all; done)
set_option maxRecDepth 100000 in
theorem g_X12_briefOf_v21 (u : qS) (x : Int32) (x2 : Int32) (x3 : Int32) (r_8 : Int32) (hI : IM u) (hv : 0 ≤ x ∧ x < u.1 1247) (hvs : u.1 1247 ≤ 120) (h_k : 0 ≤ x3) (h_f : -1 ≤ x2) (h_g : x2 < u.1 1210) (hs_1 : 0 ≤ u.1 1210 ∧ u.1 1210 ≤ 16) (c9_2 : ¬ (u.1 1210) ≤ (x3 : Int32)) (hb_3 : 0 ≤ (u.2.1 1248 (x : Int32).toNatClampNeg) ∧ (u.2.1 1248 (x : Int32).toNatClampNeg) < u.1 1232) (hs_4 : 0 ≤ u.1 1232 ∧ u.1 1232 ≤ 20) (c29_5 : (u.2.1 1211 (x3 : Int32).toNatClampNeg : Int32) = (u.2.1 1235 (u.2.1 1248 (x : Int32).toNatClampNeg : Int32).toNatClampNeg)) (c42_9 : ¬ r_8 < (u.2.1 1213 (x3 : Int32).toNatClampNeg : Int32)) (c57_10 : ¬ (u.2.1 1250 (x : Int32).toNatClampNeg) < (u.2.1 1212 (x3 : Int32).toNatClampNeg : Int32)) (c73_11 : (x2 : Int32) < 0) : -1 ≤ x3 := by
  have hz1247 := hI.1.s1247
  first | omega | ((try simp only [Int32.lt_iff_toInt_lt, Int32.le_iff_toInt_le, ← Int32.toInt_inj, Int32.toInt_add, Int32.toInt_sub, Int32.toInt_mul, Int32.toInt_neg, Int32.reduceToInt, g_bm, g_bm'] at *); omega) | (simp only [Int32.lt_iff_toInt_lt, Int32.le_iff_toInt_le, ← Int32.toInt_inj, Int32.toInt_add, Int32.toInt_sub, Int32.toInt_mul, Int32.toInt_neg, Int32.reduceToInt, g_bm, g_bm'] at *; simp at *; omega) | (simp_all; done)
set_option maxRecDepth 100000 in
theorem g_X12_briefOf_v22 (u : qS) (x : Int32) (x2 : Int32) (x3 : Int32) (r_8 : Int32) (hI : IM u) (hv : 0 ≤ x ∧ x < u.1 1247) (hvs : u.1 1247 ≤ 120) (h_k : 0 ≤ x3) (h_f : -1 ≤ x2) (h_g : x2 < u.1 1210) (hs_1 : 0 ≤ u.1 1210 ∧ u.1 1210 ≤ 16) (c9_2 : ¬ (u.1 1210) ≤ (x3 : Int32)) (hb_3 : 0 ≤ (u.2.1 1248 (x : Int32).toNatClampNeg) ∧ (u.2.1 1248 (x : Int32).toNatClampNeg) < u.1 1232) (hs_4 : 0 ≤ u.1 1232 ∧ u.1 1232 ≤ 20) (c29_5 : (u.2.1 1211 (x3 : Int32).toNatClampNeg : Int32) = (u.2.1 1235 (u.2.1 1248 (x : Int32).toNatClampNeg : Int32).toNatClampNeg)) (c42_9 : ¬ r_8 < (u.2.1 1213 (x3 : Int32).toNatClampNeg : Int32)) (c57_10 : ¬ (u.2.1 1250 (x : Int32).toNatClampNeg) < (u.2.1 1212 (x3 : Int32).toNatClampNeg : Int32)) (c73_11 : (x2 : Int32) < 0) : x3 < u.1 1210 := by
  have hz1247 := hI.1.s1247
  first | omega | ((try simp only [Int32.lt_iff_toInt_lt, Int32.le_iff_toInt_le, ← Int32.toInt_inj, Int32.toInt_add, Int32.toInt_sub, Int32.toInt_mul, Int32.toInt_neg, Int32.reduceToInt, g_bm, g_bm'] at *); omega) | (simp only [Int32.lt_iff_toInt_lt, Int32.le_iff_toInt_le, ← Int32.toInt_inj, Int32.toInt_add, Int32.toInt_sub, Int32.toInt_mul, Int32.toInt_neg, Int32.reduceToInt, g_bm, g_bm'] at *; simp at *; omega) | (simp_all; done)
set_option maxRecDepth 100000 in
theorem g_X12_briefOf_v23 (u : qS) (x : Int32) (x2 : Int32) (x3 : Int32) (r_8 : Int32) (hI : IM u) (hv : 0 ≤ x ∧ x < u.1 1247) (hvs : u.1 1247 ≤ 120) (h_k : 0 ≤ x3) (h_f : -1 ≤ x2) (h_g : x2 < u.1 1210) (hs_1 : 0 ≤ u.1 1210 ∧ u.1 1210 ≤ 16) (c9_2 : ¬ (u.1 1210) ≤ (x3 : Int32)) (hb_3 : 0 ≤ (u.2.1 1248 (x : Int32).toNatClampNeg) ∧ (u.2.1 1248 (x : Int32).toNatClampNeg) < u.1 1232) (hs_4 : 0 ≤ u.1 1232 ∧ u.1 1232 ≤ 20) (c29_5 : (u.2.1 1211 (x3 : Int32).toNatClampNeg : Int32) = (u.2.1 1235 (u.2.1 1248 (x : Int32).toNatClampNeg : Int32).toNatClampNeg)) (c42_9 : ¬ r_8 < (u.2.1 1213 (x3 : Int32).toNatClampNeg : Int32)) (c57_10 : ¬ (u.2.1 1250 (x : Int32).toNatClampNeg) < (u.2.1 1212 (x3 : Int32).toNatClampNeg : Int32)) (c73_11 : (x2 : Int32) < 0) : ((u.1 1210).toInt - (x3 + 1).toInt).toNat < ((u.1 1210).toInt - x3.toInt).toNat := by
  have hz1247 := hI.1.s1247
  first | omega | ((try simp only [Int32.lt_iff_toInt_lt, Int32.le_iff_toInt_le, ← Int32.toInt_inj, Int32.toInt_add, Int32.toInt_sub, Int32.toInt_mul, Int32.toInt_neg, Int32.reduceToInt, g_bm, g_bm'] at *); omega) | (simp only [Int32.lt_iff_toInt_lt, Int32.le_iff_toInt_le, ← Int32.toInt_inj, Int32.toInt_add, Int32.toInt_sub, Int32.toInt_mul, Int32.toInt_neg, Int32.reduceToInt, g_bm, g_bm'] at *; simp at *; omega) | (simp_all; done)
set_option maxRecDepth 100000 in
theorem g_X12_briefOf_v24 (u : qS) (x : Int32) (x2 : Int32) (x3 : Int32) (r_8 : Int32) (hI : IM u) (hv : 0 ≤ x ∧ x < u.1 1247) (hvs : u.1 1247 ≤ 120) (h_k : 0 ≤ x3) (h_f : -1 ≤ x2) (h_g : x2 < u.1 1210) (hs_1 : 0 ≤ u.1 1210 ∧ u.1 1210 ≤ 16) (c9_2 : ¬ (u.1 1210) ≤ (x3 : Int32)) (hb_3 : 0 ≤ (u.2.1 1248 (x : Int32).toNatClampNeg) ∧ (u.2.1 1248 (x : Int32).toNatClampNeg) < u.1 1232) (hs_4 : 0 ≤ u.1 1232 ∧ u.1 1232 ≤ 20) (c29_5 : (u.2.1 1211 (x3 : Int32).toNatClampNeg : Int32) = (u.2.1 1235 (u.2.1 1248 (x : Int32).toNatClampNeg : Int32).toNatClampNeg)) (c42_9 : ¬ r_8 < (u.2.1 1213 (x3 : Int32).toNatClampNeg : Int32)) (c57_10 : ¬ (u.2.1 1250 (x : Int32).toNatClampNeg) < (u.2.1 1212 (x3 : Int32).toNatClampNeg : Int32)) (c73_11 : ¬ (x2 : Int32) < 0) : vp_in (x3) 17 := by
  have hz1247 := hI.1.s1247
  refine g_in ?_ ?_ <;> ((try simp only [Int32.lt_iff_toInt_lt, Int32.le_iff_toInt_le, ← Int32.toInt_inj, Int32.toInt_add, Int32.toInt_sub, Int32.toInt_mul, Int32.toInt_neg, Int32.reduceToInt, g_bm, g_bm'] at *); omega)
set_option maxRecDepth 100000 in
theorem g_X12_briefOf_v25 (u : qS) (x : Int32) (x2 : Int32) (x3 : Int32) (r_8 : Int32) (hI : IM u) (hv : 0 ≤ x ∧ x < u.1 1247) (hvs : u.1 1247 ≤ 120) (h_k : 0 ≤ x3) (h_f : -1 ≤ x2) (h_g : x2 < u.1 1210) (hs_1 : 0 ≤ u.1 1210 ∧ u.1 1210 ≤ 16) (c9_2 : ¬ (u.1 1210) ≤ (x3 : Int32)) (hb_3 : 0 ≤ (u.2.1 1248 (x : Int32).toNatClampNeg) ∧ (u.2.1 1248 (x : Int32).toNatClampNeg) < u.1 1232) (hs_4 : 0 ≤ u.1 1232 ∧ u.1 1232 ≤ 20) (c29_5 : (u.2.1 1211 (x3 : Int32).toNatClampNeg : Int32) = (u.2.1 1235 (u.2.1 1248 (x : Int32).toNatClampNeg : Int32).toNatClampNeg)) (c42_9 : ¬ r_8 < (u.2.1 1213 (x3 : Int32).toNatClampNeg : Int32)) (c57_10 : ¬ (u.2.1 1250 (x : Int32).toNatClampNeg) < (u.2.1 1212 (x3 : Int32).toNatClampNeg : Int32)) (c73_11 : ¬ (x2 : Int32) < 0) : vp_in (x2) 17 := by
  have hz1247 := hI.1.s1247
  refine g_in ?_ ?_ <;> ((try simp only [Int32.lt_iff_toInt_lt, Int32.le_iff_toInt_le, ← Int32.toInt_inj, Int32.toInt_add, Int32.toInt_sub, Int32.toInt_mul, Int32.toInt_neg, Int32.reduceToInt, g_bm, g_bm'] at *); omega)
set_option maxRecDepth 100000 in
theorem g_X12_briefOf_v26 (u : qS) (x : Int32) (x2 : Int32) (x3 : Int32) (r_8 : Int32) (hI : IM u) (hv : 0 ≤ x ∧ x < u.1 1247) (hvs : u.1 1247 ≤ 120) (h_k : 0 ≤ x3) (h_f : -1 ≤ x2) (h_g : x2 < u.1 1210) (hs_1 : 0 ≤ u.1 1210 ∧ u.1 1210 ≤ 16) (c9_2 : ¬ (u.1 1210) ≤ (x3 : Int32)) (hb_3 : 0 ≤ (u.2.1 1248 (x : Int32).toNatClampNeg) ∧ (u.2.1 1248 (x : Int32).toNatClampNeg) < u.1 1232) (hs_4 : 0 ≤ u.1 1232 ∧ u.1 1232 ≤ 20) (c29_5 : (u.2.1 1211 (x3 : Int32).toNatClampNeg : Int32) = (u.2.1 1235 (u.2.1 1248 (x : Int32).toNatClampNeg : Int32).toNatClampNeg)) (c42_9 : ¬ r_8 < (u.2.1 1213 (x3 : Int32).toNatClampNeg : Int32)) (c57_10 : ¬ (u.2.1 1250 (x : Int32).toNatClampNeg) < (u.2.1 1212 (x3 : Int32).toNatClampNeg : Int32)) (c73_11 : ¬ (x2 : Int32) < 0) (c88_12 : (u.2.1 1212 (x3 : Int32).toNatClampNeg : Int32) < (u.2.1 1212 (x2 : Int32).toNatClampNeg)) : 0 ≤ (x3 + 1) := by
  have hz1247 := hI.1.s1247
  first | omega | ((try simp only [Int32.lt_iff_toInt_lt, Int32.le_iff_toInt_le, ← Int32.toInt_inj, Int32.toInt_add, Int32.toInt_sub, Int32.toInt_mul, Int32.toInt_neg, Int32.reduceToInt, g_bm, g_bm'] at *); omega) | (simp only [Int32.lt_iff_toInt_lt, Int32.le_iff_toInt_le, ← Int32.toInt_inj, Int32.toInt_add, Int32.toInt_sub, Int32.toInt_mul, Int32.toInt_neg, Int32.reduceToInt, g_bm, g_bm'] at *; simp at *; omega) | (simp_all; done)
set_option maxRecDepth 100000 in
theorem g_X12_briefOf_v27 (u : qS) (x : Int32) (x2 : Int32) (x3 : Int32) (r_8 : Int32) (hI : IM u) (hv : 0 ≤ x ∧ x < u.1 1247) (hvs : u.1 1247 ≤ 120) (h_k : 0 ≤ x3) (h_f : -1 ≤ x2) (h_g : x2 < u.1 1210) (hs_1 : 0 ≤ u.1 1210 ∧ u.1 1210 ≤ 16) (c9_2 : ¬ (u.1 1210) ≤ (x3 : Int32)) (hb_3 : 0 ≤ (u.2.1 1248 (x : Int32).toNatClampNeg) ∧ (u.2.1 1248 (x : Int32).toNatClampNeg) < u.1 1232) (hs_4 : 0 ≤ u.1 1232 ∧ u.1 1232 ≤ 20) (c29_5 : (u.2.1 1211 (x3 : Int32).toNatClampNeg : Int32) = (u.2.1 1235 (u.2.1 1248 (x : Int32).toNatClampNeg : Int32).toNatClampNeg)) (c42_9 : ¬ r_8 < (u.2.1 1213 (x3 : Int32).toNatClampNeg : Int32)) (c57_10 : ¬ (u.2.1 1250 (x : Int32).toNatClampNeg) < (u.2.1 1212 (x3 : Int32).toNatClampNeg : Int32)) (c73_11 : ¬ (x2 : Int32) < 0) (c88_12 : (u.2.1 1212 (x3 : Int32).toNatClampNeg : Int32) < (u.2.1 1212 (x2 : Int32).toNatClampNeg)) : -1 ≤ x2 := by
  have hz1247 := hI.1.s1247
  first | omega | ((try simp only [Int32.lt_iff_toInt_lt, Int32.le_iff_toInt_le, ← Int32.toInt_inj, Int32.toInt_add, Int32.toInt_sub, Int32.toInt_mul, Int32.toInt_neg, Int32.reduceToInt, g_bm, g_bm'] at *); omega) | (simp only [Int32.lt_iff_toInt_lt, Int32.le_iff_toInt_le, ← Int32.toInt_inj, Int32.toInt_add, Int32.toInt_sub, Int32.toInt_mul, Int32.toInt_neg, Int32.reduceToInt, g_bm, g_bm'] at *; simp at *; omega) | (simp_all; done)
set_option maxRecDepth 100000 in
theorem g_X12_briefOf_v28 (u : qS) (x : Int32) (x2 : Int32) (x3 : Int32) (r_8 : Int32) (hI : IM u) (hv : 0 ≤ x ∧ x < u.1 1247) (hvs : u.1 1247 ≤ 120) (h_k : 0 ≤ x3) (h_f : -1 ≤ x2) (h_g : x2 < u.1 1210) (hs_1 : 0 ≤ u.1 1210 ∧ u.1 1210 ≤ 16) (c9_2 : ¬ (u.1 1210) ≤ (x3 : Int32)) (hb_3 : 0 ≤ (u.2.1 1248 (x : Int32).toNatClampNeg) ∧ (u.2.1 1248 (x : Int32).toNatClampNeg) < u.1 1232) (hs_4 : 0 ≤ u.1 1232 ∧ u.1 1232 ≤ 20) (c29_5 : (u.2.1 1211 (x3 : Int32).toNatClampNeg : Int32) = (u.2.1 1235 (u.2.1 1248 (x : Int32).toNatClampNeg : Int32).toNatClampNeg)) (c42_9 : ¬ r_8 < (u.2.1 1213 (x3 : Int32).toNatClampNeg : Int32)) (c57_10 : ¬ (u.2.1 1250 (x : Int32).toNatClampNeg) < (u.2.1 1212 (x3 : Int32).toNatClampNeg : Int32)) (c73_11 : ¬ (x2 : Int32) < 0) (c88_12 : (u.2.1 1212 (x3 : Int32).toNatClampNeg : Int32) < (u.2.1 1212 (x2 : Int32).toNatClampNeg)) : x2 < u.1 1210 := by
  have hz1247 := hI.1.s1247
  first | omega | ((try simp only [Int32.lt_iff_toInt_lt, Int32.le_iff_toInt_le, ← Int32.toInt_inj, Int32.toInt_add, Int32.toInt_sub, Int32.toInt_mul, Int32.toInt_neg, Int32.reduceToInt, g_bm, g_bm'] at *); omega) | (simp only [Int32.lt_iff_toInt_lt, Int32.le_iff_toInt_le, ← Int32.toInt_inj, Int32.toInt_add, Int32.toInt_sub, Int32.toInt_mul, Int32.toInt_neg, Int32.reduceToInt, g_bm, g_bm'] at *; simp at *; omega) | (simp_all; done)
set_option maxRecDepth 100000 in
theorem g_X12_briefOf_v29 (u : qS) (x : Int32) (x2 : Int32) (x3 : Int32) (r_8 : Int32) (hI : IM u) (hv : 0 ≤ x ∧ x < u.1 1247) (hvs : u.1 1247 ≤ 120) (h_k : 0 ≤ x3) (h_f : -1 ≤ x2) (h_g : x2 < u.1 1210) (hs_1 : 0 ≤ u.1 1210 ∧ u.1 1210 ≤ 16) (c9_2 : ¬ (u.1 1210) ≤ (x3 : Int32)) (hb_3 : 0 ≤ (u.2.1 1248 (x : Int32).toNatClampNeg) ∧ (u.2.1 1248 (x : Int32).toNatClampNeg) < u.1 1232) (hs_4 : 0 ≤ u.1 1232 ∧ u.1 1232 ≤ 20) (c29_5 : (u.2.1 1211 (x3 : Int32).toNatClampNeg : Int32) = (u.2.1 1235 (u.2.1 1248 (x : Int32).toNatClampNeg : Int32).toNatClampNeg)) (c42_9 : ¬ r_8 < (u.2.1 1213 (x3 : Int32).toNatClampNeg : Int32)) (c57_10 : ¬ (u.2.1 1250 (x : Int32).toNatClampNeg) < (u.2.1 1212 (x3 : Int32).toNatClampNeg : Int32)) (c73_11 : ¬ (x2 : Int32) < 0) (c88_12 : (u.2.1 1212 (x3 : Int32).toNatClampNeg : Int32) < (u.2.1 1212 (x2 : Int32).toNatClampNeg)) : ((u.1 1210).toInt - (x3 + 1).toInt).toNat < ((u.1 1210).toInt - x3.toInt).toNat := by
  have hz1247 := hI.1.s1247
  first | omega | ((try simp only [Int32.lt_iff_toInt_lt, Int32.le_iff_toInt_le, ← Int32.toInt_inj, Int32.toInt_add, Int32.toInt_sub, Int32.toInt_mul, Int32.toInt_neg, Int32.reduceToInt, g_bm, g_bm'] at *); omega) | (simp only [Int32.lt_iff_toInt_lt, Int32.le_iff_toInt_le, ← Int32.toInt_inj, Int32.toInt_add, Int32.toInt_sub, Int32.toInt_mul, Int32.toInt_neg, Int32.reduceToInt, g_bm, g_bm'] at *; simp at *; omega) | (simp_all; done)
set_option maxRecDepth 100000 in
theorem g_X12_briefOf_v30 (u : qS) (x : Int32) (x2 : Int32) (x3 : Int32) (r_8 : Int32) (hI : IM u) (hv : 0 ≤ x ∧ x < u.1 1247) (hvs : u.1 1247 ≤ 120) (h_k : 0 ≤ x3) (h_f : -1 ≤ x2) (h_g : x2 < u.1 1210) (hs_1 : 0 ≤ u.1 1210 ∧ u.1 1210 ≤ 16) (c9_2 : ¬ (u.1 1210) ≤ (x3 : Int32)) (hb_3 : 0 ≤ (u.2.1 1248 (x : Int32).toNatClampNeg) ∧ (u.2.1 1248 (x : Int32).toNatClampNeg) < u.1 1232) (hs_4 : 0 ≤ u.1 1232 ∧ u.1 1232 ≤ 20) (c29_5 : (u.2.1 1211 (x3 : Int32).toNatClampNeg : Int32) = (u.2.1 1235 (u.2.1 1248 (x : Int32).toNatClampNeg : Int32).toNatClampNeg)) (c42_9 : ¬ r_8 < (u.2.1 1213 (x3 : Int32).toNatClampNeg : Int32)) (c57_10 : ¬ (u.2.1 1250 (x : Int32).toNatClampNeg) < (u.2.1 1212 (x3 : Int32).toNatClampNeg : Int32)) (c73_11 : ¬ (x2 : Int32) < 0) (c88_12 : ¬ (u.2.1 1212 (x3 : Int32).toNatClampNeg : Int32) < (u.2.1 1212 (x2 : Int32).toNatClampNeg)) : 0 ≤ (x3 + 1) := by
  have hz1247 := hI.1.s1247
  first | omega | ((try simp only [Int32.lt_iff_toInt_lt, Int32.le_iff_toInt_le, ← Int32.toInt_inj, Int32.toInt_add, Int32.toInt_sub, Int32.toInt_mul, Int32.toInt_neg, Int32.reduceToInt, g_bm, g_bm'] at *); omega) | (simp only [Int32.lt_iff_toInt_lt, Int32.le_iff_toInt_le, ← Int32.toInt_inj, Int32.toInt_add, Int32.toInt_sub, Int32.toInt_mul, Int32.toInt_neg, Int32.reduceToInt, g_bm, g_bm'] at *; simp at *; omega) | (simp_all; done)
set_option maxRecDepth 100000 in
theorem g_X12_briefOf_v31 (u : qS) (x : Int32) (x2 : Int32) (x3 : Int32) (r_8 : Int32) (hI : IM u) (hv : 0 ≤ x ∧ x < u.1 1247) (hvs : u.1 1247 ≤ 120) (h_k : 0 ≤ x3) (h_f : -1 ≤ x2) (h_g : x2 < u.1 1210) (hs_1 : 0 ≤ u.1 1210 ∧ u.1 1210 ≤ 16) (c9_2 : ¬ (u.1 1210) ≤ (x3 : Int32)) (hb_3 : 0 ≤ (u.2.1 1248 (x : Int32).toNatClampNeg) ∧ (u.2.1 1248 (x : Int32).toNatClampNeg) < u.1 1232) (hs_4 : 0 ≤ u.1 1232 ∧ u.1 1232 ≤ 20) (c29_5 : (u.2.1 1211 (x3 : Int32).toNatClampNeg : Int32) = (u.2.1 1235 (u.2.1 1248 (x : Int32).toNatClampNeg : Int32).toNatClampNeg)) (c42_9 : ¬ r_8 < (u.2.1 1213 (x3 : Int32).toNatClampNeg : Int32)) (c57_10 : ¬ (u.2.1 1250 (x : Int32).toNatClampNeg) < (u.2.1 1212 (x3 : Int32).toNatClampNeg : Int32)) (c73_11 : ¬ (x2 : Int32) < 0) (c88_12 : ¬ (u.2.1 1212 (x3 : Int32).toNatClampNeg : Int32) < (u.2.1 1212 (x2 : Int32).toNatClampNeg)) : -1 ≤ x3 := by
  have hz1247 := hI.1.s1247
  first | omega | ((try simp only [Int32.lt_iff_toInt_lt, Int32.le_iff_toInt_le, ← Int32.toInt_inj, Int32.toInt_add, Int32.toInt_sub, Int32.toInt_mul, Int32.toInt_neg, Int32.reduceToInt, g_bm, g_bm'] at *); omega) | (simp only [Int32.lt_iff_toInt_lt, Int32.le_iff_toInt_le, ← Int32.toInt_inj, Int32.toInt_add, Int32.toInt_sub, Int32.toInt_mul, Int32.toInt_neg, Int32.reduceToInt, g_bm, g_bm'] at *; simp at *; omega) | (simp_all; done)
set_option maxRecDepth 100000 in
theorem g_X12_briefOf_v32 (u : qS) (x : Int32) (x2 : Int32) (x3 : Int32) (r_8 : Int32) (hI : IM u) (hv : 0 ≤ x ∧ x < u.1 1247) (hvs : u.1 1247 ≤ 120) (h_k : 0 ≤ x3) (h_f : -1 ≤ x2) (h_g : x2 < u.1 1210) (hs_1 : 0 ≤ u.1 1210 ∧ u.1 1210 ≤ 16) (c9_2 : ¬ (u.1 1210) ≤ (x3 : Int32)) (hb_3 : 0 ≤ (u.2.1 1248 (x : Int32).toNatClampNeg) ∧ (u.2.1 1248 (x : Int32).toNatClampNeg) < u.1 1232) (hs_4 : 0 ≤ u.1 1232 ∧ u.1 1232 ≤ 20) (c29_5 : (u.2.1 1211 (x3 : Int32).toNatClampNeg : Int32) = (u.2.1 1235 (u.2.1 1248 (x : Int32).toNatClampNeg : Int32).toNatClampNeg)) (c42_9 : ¬ r_8 < (u.2.1 1213 (x3 : Int32).toNatClampNeg : Int32)) (c57_10 : ¬ (u.2.1 1250 (x : Int32).toNatClampNeg) < (u.2.1 1212 (x3 : Int32).toNatClampNeg : Int32)) (c73_11 : ¬ (x2 : Int32) < 0) (c88_12 : ¬ (u.2.1 1212 (x3 : Int32).toNatClampNeg : Int32) < (u.2.1 1212 (x2 : Int32).toNatClampNeg)) : x3 < u.1 1210 := by
  have hz1247 := hI.1.s1247
  first | omega | ((try simp only [Int32.lt_iff_toInt_lt, Int32.le_iff_toInt_le, ← Int32.toInt_inj, Int32.toInt_add, Int32.toInt_sub, Int32.toInt_mul, Int32.toInt_neg, Int32.reduceToInt, g_bm, g_bm'] at *); omega) | (simp only [Int32.lt_iff_toInt_lt, Int32.le_iff_toInt_le, ← Int32.toInt_inj, Int32.toInt_add, Int32.toInt_sub, Int32.toInt_mul, Int32.toInt_neg, Int32.reduceToInt, g_bm, g_bm'] at *; simp at *; omega) | (simp_all; done)
set_option maxRecDepth 100000 in
theorem g_X12_briefOf_v33 (u : qS) (x : Int32) (x2 : Int32) (x3 : Int32) (r_8 : Int32) (hI : IM u) (hv : 0 ≤ x ∧ x < u.1 1247) (hvs : u.1 1247 ≤ 120) (h_k : 0 ≤ x3) (h_f : -1 ≤ x2) (h_g : x2 < u.1 1210) (hs_1 : 0 ≤ u.1 1210 ∧ u.1 1210 ≤ 16) (c9_2 : ¬ (u.1 1210) ≤ (x3 : Int32)) (hb_3 : 0 ≤ (u.2.1 1248 (x : Int32).toNatClampNeg) ∧ (u.2.1 1248 (x : Int32).toNatClampNeg) < u.1 1232) (hs_4 : 0 ≤ u.1 1232 ∧ u.1 1232 ≤ 20) (c29_5 : (u.2.1 1211 (x3 : Int32).toNatClampNeg : Int32) = (u.2.1 1235 (u.2.1 1248 (x : Int32).toNatClampNeg : Int32).toNatClampNeg)) (c42_9 : ¬ r_8 < (u.2.1 1213 (x3 : Int32).toNatClampNeg : Int32)) (c57_10 : ¬ (u.2.1 1250 (x : Int32).toNatClampNeg) < (u.2.1 1212 (x3 : Int32).toNatClampNeg : Int32)) (c73_11 : ¬ (x2 : Int32) < 0) (c88_12 : ¬ (u.2.1 1212 (x3 : Int32).toNatClampNeg : Int32) < (u.2.1 1212 (x2 : Int32).toNatClampNeg)) : ((u.1 1210).toInt - (x3 + 1).toInt).toNat < ((u.1 1210).toInt - x3.toInt).toNat := by
  have hz1247 := hI.1.s1247
  first | omega | ((try simp only [Int32.lt_iff_toInt_lt, Int32.le_iff_toInt_le, ← Int32.toInt_inj, Int32.toInt_add, Int32.toInt_sub, Int32.toInt_mul, Int32.toInt_neg, Int32.reduceToInt, g_bm, g_bm'] at *); omega) | (simp only [Int32.lt_iff_toInt_lt, Int32.le_iff_toInt_le, ← Int32.toInt_inj, Int32.toInt_add, Int32.toInt_sub, Int32.toInt_mul, Int32.toInt_neg, Int32.reduceToInt, g_bm, g_bm'] at *; simp at *; omega) | (simp_all; done)
set_option maxRecDepth 100000 in
theorem g_X12_briefOf_v34 (u : qS) (x : Int32) (hI : IM u) (hv : 0 ≤ x ∧ x < u.1 1247) (hvs : u.1 1247 ≤ 120) : 0 ≤ (0 : Int32) := by
  have hz1247 := hI.1.s1247
  first | omega | ((try simp only [Int32.lt_iff_toInt_lt, Int32.le_iff_toInt_le, ← Int32.toInt_inj, Int32.toInt_add, Int32.toInt_sub, Int32.toInt_mul, Int32.toInt_neg, Int32.reduceToInt, g_bm, g_bm'] at *); omega) | (simp only [Int32.lt_iff_toInt_lt, Int32.le_iff_toInt_le, ← Int32.toInt_inj, Int32.toInt_add, Int32.toInt_sub, Int32.toInt_mul, Int32.toInt_neg, Int32.reduceToInt, g_bm, g_bm'] at *; simp at *; omega) | (simp_all; done)
set_option maxRecDepth 100000 in
theorem g_X12_briefOf_v35 (u : qS) (x : Int32) (hI : IM u) (hv : 0 ≤ x ∧ x < u.1 1247) (hvs : u.1 1247 ≤ 120) : -1 ≤ ((-1) : Int32) := by
  have hz1247 := hI.1.s1247
  first | omega | ((try simp only [Int32.lt_iff_toInt_lt, Int32.le_iff_toInt_le, ← Int32.toInt_inj, Int32.toInt_add, Int32.toInt_sub, Int32.toInt_mul, Int32.toInt_neg, Int32.reduceToInt, g_bm, g_bm'] at *); omega) | (simp only [Int32.lt_iff_toInt_lt, Int32.le_iff_toInt_le, ← Int32.toInt_inj, Int32.toInt_add, Int32.toInt_sub, Int32.toInt_mul, Int32.toInt_neg, Int32.reduceToInt, g_bm, g_bm'] at *; simp at *; omega) | (simp_all; done)
set_option maxRecDepth 100000 in
theorem g_X12_briefOf_v36 (u : qS) (x : Int32) (hI : IM u) (hv : 0 ≤ x ∧ x < u.1 1247) (hvs : u.1 1247 ≤ 120) : ((-1) : Int32) < u.1 1210 := by
  have hz1247 := hI.1.s1247
  have hz1210 := hI.1.s1210
  first | omega | ((try simp only [Int32.lt_iff_toInt_lt, Int32.le_iff_toInt_le, ← Int32.toInt_inj, Int32.toInt_add, Int32.toInt_sub, Int32.toInt_mul, Int32.toInt_neg, Int32.reduceToInt, g_bm, g_bm'] at *); omega) | (simp only [Int32.lt_iff_toInt_lt, Int32.le_iff_toInt_le, ← Int32.toInt_inj, Int32.toInt_add, Int32.toInt_sub, Int32.toInt_mul, Int32.toInt_neg, Int32.reduceToInt, g_bm, g_bm'] at *; simp at *; omega) | (simp_all; done)
set_option maxHeartbeats 1000000 in
set_option maxRecDepth 100000 in
theorem g_X12_briefOf (l : Launch) (E : qE) (A : Nat → Prop) (u : qS) (x : Int32) (hI : IM u) (hv : 0 ≤ x ∧ x < u.1 1247) (hvs : u.1 1247 ≤ 120) : Met l yX12_briefOf (uws yX12_briefOf cX12_briefOf 5 (some .int)) (qR 1 0 0) (qPc E A 1 u [.ref (E.2.2 1299), .int x]) (qQi E A 1 (fun r u1 => u1 = u ∧ (-1 ≤ r ∧ r < u.1 1210))) 0 0 A := by
  refine q_met (own := RX12) (f := 1) [.ref (E.2.2 1299), .int x] (by decide) (Nat.le_of_ble_eq_true rfl) rfl ?_
  intro p0 e0 s0 m0 bl0 me0 cd0 ls hF hr hlocks hU hS hA hl
  have hl : lv_has ls 5 [(0, .ref (E.2.2 1299)), (1, .int x)] := hl
  have main : ∀ n : Nat, (∀ (x2 : Int32) (x3 : Int32) (uc : qS) (H : Heap) (locs : List Loc) (ls : Array Slot) (huc : u = uc) (h_k : 0 ≤ x3) (h_f : -1 ≤ x2) (h_g : x2 < u.1 1210), ((u.1 1210).toInt - x3.toInt).toNat < n → qH E A 1 uc s0 H → va_S A s0.heap H locs → lv_has ls 5 [(0, .ref (E.2.2 1299)), (1, .int x), (2, .int x2), (3, .int x3)] → W p0 l e0 (qR 1 0 0) s0 m0 ([.ref (E.2.2 1299), .int x] : List Value).toArray bl0 me0 cd0 H locs 0 0 (MQ bl0 (qQi E A 1 (fun r u1 => u1 = u ∧ (-1 ≤ r ∧ r < u.1 1210))) ([.ref (E.2.2 1299), .int x] : List Value).toArray s0 0 0 A) (F0 m0 4 ls [])) := by
    intro n
    induction n with
    | zero => exact fun _ _ _ _ _ _ _ _ _ _ hmu => absurd hmu (Nat.not_lt_zero _)
    | succ n ih =>
      intro x2 x3 uc H locs ls huc h_k h_f h_g hmu hU hS hl
      subst huc
      refine lv_iload_n hF.1 hF.2.1 dX12_briefOf_4 rfl (lv_at hl 3 rfl) ?_
      refine lv_aload_n hF.1 hF.2.1 dX12_briefOf_5 rfl (lv_at hl 0 rfl) ?_
      refine q_get (v := .int (u.1 1210)) hF hU dX12_briefOf_6 0 12 10 1210 1299 rfl rfl rfl rfl inX12 (by decide) (by decide) w_1342 rfl rfl ?_
      have hs_1 : 0 ≤ u.1 1210 ∧ u.1 1210 ≤ 16 := hI.1.s1210
      refine lv_icmp_ge (tgt := 103) hF.1 hF.2.1 dX12_briefOf_9 (by decide) (fun c9_2 => ?_) (fun c9_2 => ?_)
      · refine lv_iload_n hF.1 hF.2.1 dX12_briefOf_103 rfl (lv_at hl 2 rfl) ?_
        exact q_iret hF hr rfl hlocks hU hS dX12_briefOf_104 ⟨rfl, (g_X12_briefOf_v0 u x x2 x3 hI hv hvs h_k h_f h_g hs_1 c9_2)⟩
      · refine lv_aload_n hF.1 hF.2.1 dX12_briefOf_12 rfl (lv_at hl 0 rfl) ?_
        refine q_get (v := .ref (E.2.2 1211)) hF hU dX12_briefOf_13 0 12 11 1211 1299 rfl rfl rfl rfl inX12 (by decide) (by decide) w_1343 rfl rfl ?_
        refine lv_iload_n hF.1 hF.2.1 dX12_briefOf_16 rfl (lv_at hl 3 rfl) ?_
        refine q_iald (v := u.2.1 1211 (x3 : Int32).toNatClampNeg) hF hU dX12_briefOf_17 5 1211 rfl rfl (g_X12_briefOf_v1 u x x2 x3 hI hv hvs h_k h_f h_g hs_1 c9_2) rfl ?_
        refine lv_aload_n hF.1 hF.2.1 dX12_briefOf_18 rfl (lv_at hl 0 rfl) ?_
        refine q_get (v := .ref (E.2.2 1235)) hF hU dX12_briefOf_19 0 12 35 1235 1299 rfl rfl rfl rfl inX12 (by decide) (by decide) w_1367 rfl rfl ?_
        refine lv_aload_n hF.1 hF.2.1 dX12_briefOf_22 rfl (lv_at hl 0 rfl) ?_
        refine q_get (v := .ref (E.2.2 1248)) hF hU dX12_briefOf_23 0 12 48 1248 1299 rfl rfl rfl rfl inX12 (by decide) (by decide) w_1380 rfl rfl ?_
        refine lv_iload_n hF.1 hF.2.1 dX12_briefOf_26 rfl (lv_at hl 1 rfl) ?_
        refine q_iald (v := u.2.1 1248 (x : Int32).toNatClampNeg) hF hU dX12_briefOf_27 27 1248 rfl rfl (g_X12_briefOf_v2 u x x2 x3 hI hv hvs h_k h_f h_g hs_1 c9_2) rfl ?_
        have hb_3 : 0 ≤ (u.2.1 1248 (x : Int32).toNatClampNeg) ∧ (u.2.1 1248 (x : Int32).toNatClampNeg) < u.1 1232 := hI.2.1.r1248 x (g_X12_briefOf_v3 u x x2 x3 hI hv hvs h_k h_f h_g hs_1 c9_2)
        have hs_4 : 0 ≤ u.1 1232 ∧ u.1 1232 ≤ 20 := hI.1.s1232
        refine q_iald (v := u.2.1 1235 (u.2.1 1248 (x : Int32).toNatClampNeg : Int32).toNatClampNeg) hF hU dX12_briefOf_28 21 1235 rfl rfl (g_X12_briefOf_v4 u x x2 x3 hI hv hvs h_k h_f h_g hs_1 c9_2 hb_3 hs_4) rfl ?_
        refine lv_icmp_ne (tgt := 64) hF.1 hF.2.1 dX12_briefOf_29 (by decide) (fun c29_5 => ?_) (fun c29_5 => ?_)
        · refine lv_iconst (v := 0) hF.1 hF.2.1 dX12_briefOf_64 (by decide) ?_
          refine lv_istore (lv' := [(4, .int 0), (0, .ref (E.2.2 1299)), (1, .int x), (2, .int x2), (3, .int x3)]) hF.1 hF.2.1 dX12_briefOf_65 hl (by decide) rfl (fun ls hl => ?_)
          refine lv_iload hF.1 hF.2.1 dX12_briefOf_67 (lv_at hl 0 rfl) ?_
          refine lv_if_eq (tgt := 95) hF.1 hF.2.1 dX12_briefOf_69 (by decide) (fun _ => ?_) (fun h9 => absurd (by decide) h9)
          refine lv_iload_n hF.1 hF.2.1 dX12_briefOf_95 rfl (lv_at hl 3 rfl) ?_
          refine lv_istore_n (lv' := [(2, .int x2), (4, .int 0), (0, .ref (E.2.2 1299)), (1, .int x), (3, .int x3)]) hF.1 hF.2.1 dX12_briefOf_96 rfl hl (by decide) rfl (fun ls hl => ?_)
          refine lv_iinc (v := x3 + 1) (lv' := [(3, .int (x3 + 1)), (2, .int x2), (4, .int 0), (0, .ref (E.2.2 1299)), (1, .int x)]) hF.1 hF.2.1 dX12_briefOf_97 hl (k := 4) rfl rfl (by decide) rfl (fun ls hl => ?_)
          refine lv_goto (tgt := 4) hF.1 hF.2.1 dX12_briefOf_100 (by decide) ?_
          exact ih x2 (x3 + 1) u _ _ _ rfl (g_X12_briefOf_v5 u x x2 x3 hI hv hvs h_k h_f h_g hs_1 c9_2 hb_3 hs_4 c29_5) (g_X12_briefOf_v6 u x x2 x3 hI hv hvs h_k h_f h_g hs_1 c9_2 hb_3 hs_4 c29_5) (g_X12_briefOf_v7 u x x2 x3 hI hv hvs h_k h_f h_g hs_1 c9_2 hb_3 hs_4 c29_5) (Nat.lt_of_lt_of_le (g_X12_briefOf_v8 u x x2 x3 hI hv hvs h_k h_f h_g hs_1 c9_2 hb_3 hs_4 c29_5) (Nat.lt_succ_iff.mp hmu)) hU hS (lv_sub hl [3, 4, 1, 0] rfl)
        · refine lv_aload_n hF.1 hF.2.1 dX12_briefOf_32 rfl (lv_at hl 0 rfl) ?_
          refine q_get (v := .ref (E.2.2 1213)) hF hU dX12_briefOf_33 0 12 13 1213 1299 rfl rfl rfl rfl inX12 (by decide) (by decide) w_1345 rfl rfl ?_
          refine lv_iload_n hF.1 hF.2.1 dX12_briefOf_36 rfl (lv_at hl 3 rfl) ?_
          refine q_iald (v := u.2.1 1213 (x3 : Int32).toNatClampNeg) hF hU dX12_briefOf_37 7 1213 rfl rfl (g_X12_briefOf_v9 u x x2 x3 hI hv hvs h_k h_f h_g hs_1 c9_2 hb_3 hs_4 c29_5) rfl ?_
          refine lv_aload_n hF.1 hF.2.1 dX12_briefOf_38 rfl (lv_at hl 0 rfl) ?_
          have hM9 := g_X12_viewDay l E A u
          have hR9 := q_runV (l := l) (e := e0) (below := bl0) (meth := me0) (R := qR 1 0 0) (cells := 0) (slots := 0) (st0 := [.ref (E.2.2 1299), .int (u.2.1 1213 (x3 : Int32).toNatClampNeg)]) (rest := [.int (u.2.1 1213 (x3 : Int32).toNatClampNeg)]) hF hU hS hA 0 0 12 1299 rfl rfl rfl hM9 w_1737 w_1739 w_72 w_107 w_1740 (by decide +kernel) ⟨Nat.le_of_ble_eq_true rfl, Nat.le_of_ble_eq_true rfl⟩ dX12_briefOf_39 rfl hl.1 rfl (Nat.le_of_ble_eq_true rfl) ⟨Nat.le_of_ble_eq_true rfl, Nat.le_of_ble_eq_true rfl⟩
          refine q_calli hR9 hU.2.2.2 hS (fun r_8 u_6 H locs hw_7 hU hS => ?_)
          obtain ⟨hw_7_e, hw_7⟩ := hw_7
          rw [hw_7_e] at hU
          refine lv_icmp_gt (tgt := 64) hF.1 hF.2.1 dX12_briefOf_42 (by decide) (fun c42_9 => ?_) (fun c42_9 => ?_)
          · refine lv_iconst (v := 0) hF.1 hF.2.1 dX12_briefOf_64 (by decide) ?_
            refine lv_istore (lv' := [(4, .int 0), (0, .ref (E.2.2 1299)), (1, .int x), (2, .int x2), (3, .int x3)]) hF.1 hF.2.1 dX12_briefOf_65 hl (by decide) rfl (fun ls hl => ?_)
            refine lv_iload hF.1 hF.2.1 dX12_briefOf_67 (lv_at hl 0 rfl) ?_
            refine lv_if_eq (tgt := 95) hF.1 hF.2.1 dX12_briefOf_69 (by decide) (fun _ => ?_) (fun h9 => absurd (by decide) h9)
            refine lv_iload_n hF.1 hF.2.1 dX12_briefOf_95 rfl (lv_at hl 3 rfl) ?_
            refine lv_istore_n (lv' := [(2, .int x2), (4, .int 0), (0, .ref (E.2.2 1299)), (1, .int x), (3, .int x3)]) hF.1 hF.2.1 dX12_briefOf_96 rfl hl (by decide) rfl (fun ls hl => ?_)
            refine lv_iinc (v := x3 + 1) (lv' := [(3, .int (x3 + 1)), (2, .int x2), (4, .int 0), (0, .ref (E.2.2 1299)), (1, .int x)]) hF.1 hF.2.1 dX12_briefOf_97 hl (k := 4) rfl rfl (by decide) rfl (fun ls hl => ?_)
            refine lv_goto (tgt := 4) hF.1 hF.2.1 dX12_briefOf_100 (by decide) ?_
            exact ih x2 (x3 + 1) u _ _ _ rfl (g_X12_briefOf_v10 u x x2 x3 r_8 hI hv hvs h_k h_f h_g hs_1 c9_2 hb_3 hs_4 c29_5 c42_9) (g_X12_briefOf_v11 u x x2 x3 r_8 hI hv hvs h_k h_f h_g hs_1 c9_2 hb_3 hs_4 c29_5 c42_9) (g_X12_briefOf_v12 u x x2 x3 r_8 hI hv hvs h_k h_f h_g hs_1 c9_2 hb_3 hs_4 c29_5 c42_9) (Nat.lt_of_lt_of_le (g_X12_briefOf_v13 u x x2 x3 r_8 hI hv hvs h_k h_f h_g hs_1 c9_2 hb_3 hs_4 c29_5 c42_9) (Nat.lt_succ_iff.mp hmu)) hU hS (lv_sub hl [3, 4, 1, 0] rfl)
          · refine lv_aload_n hF.1 hF.2.1 dX12_briefOf_45 rfl (lv_at hl 0 rfl) ?_
            refine q_get (v := .ref (E.2.2 1212)) hF hU dX12_briefOf_46 0 12 12 1212 1299 rfl rfl rfl rfl inX12 (by decide) (by decide) w_1344 rfl rfl ?_
            refine lv_iload_n hF.1 hF.2.1 dX12_briefOf_49 rfl (lv_at hl 3 rfl) ?_
            refine q_iald (v := u.2.1 1212 (x3 : Int32).toNatClampNeg) hF hU dX12_briefOf_50 6 1212 rfl rfl (g_X12_briefOf_v14 u x x2 x3 r_8 hI hv hvs h_k h_f h_g hs_1 c9_2 hb_3 hs_4 c29_5 c42_9) rfl ?_
            refine lv_aload_n hF.1 hF.2.1 dX12_briefOf_51 rfl (lv_at hl 0 rfl) ?_
            refine q_get (v := .ref (E.2.2 1250)) hF hU dX12_briefOf_52 0 12 50 1250 1299 rfl rfl rfl rfl inX12 (by decide) (by decide) w_1382 rfl rfl ?_
            refine lv_iload_n hF.1 hF.2.1 dX12_briefOf_55 rfl (lv_at hl 1 rfl) ?_
            refine q_iald (v := u.2.1 1250 (x : Int32).toNatClampNeg) hF hU dX12_briefOf_56 29 1250 rfl rfl (g_X12_briefOf_v15 u x x2 x3 r_8 hI hv hvs h_k h_f h_g hs_1 c9_2 hb_3 hs_4 c29_5 c42_9) rfl ?_
            refine lv_icmp_gt (tgt := 64) hF.1 hF.2.1 dX12_briefOf_57 (by decide) (fun c57_10 => ?_) (fun c57_10 => ?_)
            · refine lv_iconst (v := 0) hF.1 hF.2.1 dX12_briefOf_64 (by decide) ?_
              refine lv_istore (lv' := [(4, .int 0), (0, .ref (E.2.2 1299)), (1, .int x), (2, .int x2), (3, .int x3)]) hF.1 hF.2.1 dX12_briefOf_65 hl (by decide) rfl (fun ls hl => ?_)
              refine lv_iload hF.1 hF.2.1 dX12_briefOf_67 (lv_at hl 0 rfl) ?_
              refine lv_if_eq (tgt := 95) hF.1 hF.2.1 dX12_briefOf_69 (by decide) (fun _ => ?_) (fun h9 => absurd (by decide) h9)
              refine lv_iload_n hF.1 hF.2.1 dX12_briefOf_95 rfl (lv_at hl 3 rfl) ?_
              refine lv_istore_n (lv' := [(2, .int x2), (4, .int 0), (0, .ref (E.2.2 1299)), (1, .int x), (3, .int x3)]) hF.1 hF.2.1 dX12_briefOf_96 rfl hl (by decide) rfl (fun ls hl => ?_)
              refine lv_iinc (v := x3 + 1) (lv' := [(3, .int (x3 + 1)), (2, .int x2), (4, .int 0), (0, .ref (E.2.2 1299)), (1, .int x)]) hF.1 hF.2.1 dX12_briefOf_97 hl (k := 4) rfl rfl (by decide) rfl (fun ls hl => ?_)
              refine lv_goto (tgt := 4) hF.1 hF.2.1 dX12_briefOf_100 (by decide) ?_
              exact ih x2 (x3 + 1) u _ _ _ rfl (g_X12_briefOf_v16 u x x2 x3 r_8 hI hv hvs h_k h_f h_g hs_1 c9_2 hb_3 hs_4 c29_5 c42_9 c57_10) (g_X12_briefOf_v17 u x x2 x3 r_8 hI hv hvs h_k h_f h_g hs_1 c9_2 hb_3 hs_4 c29_5 c42_9 c57_10) (g_X12_briefOf_v18 u x x2 x3 r_8 hI hv hvs h_k h_f h_g hs_1 c9_2 hb_3 hs_4 c29_5 c42_9 c57_10) (Nat.lt_of_lt_of_le (g_X12_briefOf_v19 u x x2 x3 r_8 hI hv hvs h_k h_f h_g hs_1 c9_2 hb_3 hs_4 c29_5 c42_9 c57_10) (Nat.lt_succ_iff.mp hmu)) hU hS (lv_sub hl [3, 4, 1, 0] rfl)
            · refine lv_iconst (v := 1) hF.1 hF.2.1 dX12_briefOf_60 (by decide) ?_
              refine lv_goto (tgt := 65) hF.1 hF.2.1 dX12_briefOf_61 (by decide) ?_
              refine lv_istore (lv' := [(4, .int 1), (0, .ref (E.2.2 1299)), (1, .int x), (2, .int x2), (3, .int x3)]) hF.1 hF.2.1 dX12_briefOf_65 hl (by decide) rfl (fun ls hl => ?_)
              refine lv_iload hF.1 hF.2.1 dX12_briefOf_67 (lv_at hl 0 rfl) ?_
              refine lv_if_eq (tgt := 95) hF.1 hF.2.1 dX12_briefOf_69 (by decide) (fun h9 => absurd h9 (by decide)) (fun _ => ?_)
              refine lv_iload_n hF.1 hF.2.1 dX12_briefOf_72 rfl (lv_at hl 3 rfl) ?_
              refine lv_if_lt (tgt := 91) hF.1 hF.2.1 dX12_briefOf_73 (by decide) (fun c73_11 => ?_) (fun c73_11 => ?_)
              · refine lv_iload_n hF.1 hF.2.1 dX12_briefOf_91 rfl (lv_at hl 4 rfl) ?_
                refine lv_goto (tgt := 96) hF.1 hF.2.1 dX12_briefOf_92 (by decide) ?_
                refine lv_istore_n (lv' := [(2, .int x3), (4, .int 1), (0, .ref (E.2.2 1299)), (1, .int x), (3, .int x3)]) hF.1 hF.2.1 dX12_briefOf_96 rfl hl (by decide) rfl (fun ls hl => ?_)
                refine lv_iinc (v := x3 + 1) (lv' := [(3, .int (x3 + 1)), (2, .int x3), (4, .int 1), (0, .ref (E.2.2 1299)), (1, .int x)]) hF.1 hF.2.1 dX12_briefOf_97 hl (k := 4) rfl rfl (by decide) rfl (fun ls hl => ?_)
                refine lv_goto (tgt := 4) hF.1 hF.2.1 dX12_briefOf_100 (by decide) ?_
                exact ih x3 (x3 + 1) u _ _ _ rfl (g_X12_briefOf_v20 u x x2 x3 r_8 hI hv hvs h_k h_f h_g hs_1 c9_2 hb_3 hs_4 c29_5 c42_9 c57_10 c73_11) (g_X12_briefOf_v21 u x x2 x3 r_8 hI hv hvs h_k h_f h_g hs_1 c9_2 hb_3 hs_4 c29_5 c42_9 c57_10 c73_11) (g_X12_briefOf_v22 u x x2 x3 r_8 hI hv hvs h_k h_f h_g hs_1 c9_2 hb_3 hs_4 c29_5 c42_9 c57_10 c73_11) (Nat.lt_of_lt_of_le (g_X12_briefOf_v23 u x x2 x3 r_8 hI hv hvs h_k h_f h_g hs_1 c9_2 hb_3 hs_4 c29_5 c42_9 c57_10 c73_11) (Nat.lt_succ_iff.mp hmu)) hU hS (lv_sub hl [3, 4, 1, 0] rfl)
              · refine lv_aload_n hF.1 hF.2.1 dX12_briefOf_76 rfl (lv_at hl 1 rfl) ?_
                refine q_get (v := .ref (E.2.2 1212)) hF hU dX12_briefOf_77 0 12 12 1212 1299 rfl rfl rfl rfl inX12 (by decide) (by decide) w_1344 rfl rfl ?_
                refine lv_iload_n hF.1 hF.2.1 dX12_briefOf_80 rfl (lv_at hl 4 rfl) ?_
                refine q_iald (v := u.2.1 1212 (x3 : Int32).toNatClampNeg) hF hU dX12_briefOf_81 6 1212 rfl rfl (g_X12_briefOf_v24 u x x2 x3 r_8 hI hv hvs h_k h_f h_g hs_1 c9_2 hb_3 hs_4 c29_5 c42_9 c57_10 c73_11) rfl ?_
                refine lv_aload_n hF.1 hF.2.1 dX12_briefOf_82 rfl (lv_at hl 1 rfl) ?_
                refine q_get (v := .ref (E.2.2 1212)) hF hU dX12_briefOf_83 0 12 12 1212 1299 rfl rfl rfl rfl inX12 (by decide) (by decide) w_1344 rfl rfl ?_
                refine lv_iload_n hF.1 hF.2.1 dX12_briefOf_86 rfl (lv_at hl 3 rfl) ?_
                refine q_iald (v := u.2.1 1212 (x2 : Int32).toNatClampNeg) hF hU dX12_briefOf_87 6 1212 rfl rfl (g_X12_briefOf_v25 u x x2 x3 r_8 hI hv hvs h_k h_f h_g hs_1 c9_2 hb_3 hs_4 c29_5 c42_9 c57_10 c73_11) rfl ?_
                refine lv_icmp_lt (tgt := 95) hF.1 hF.2.1 dX12_briefOf_88 (by decide) (fun c88_12 => ?_) (fun c88_12 => ?_)
                · refine lv_iload_n hF.1 hF.2.1 dX12_briefOf_95 rfl (lv_at hl 3 rfl) ?_
                  refine lv_istore_n (lv' := [(2, .int x2), (4, .int 1), (0, .ref (E.2.2 1299)), (1, .int x), (3, .int x3)]) hF.1 hF.2.1 dX12_briefOf_96 rfl hl (by decide) rfl (fun ls hl => ?_)
                  refine lv_iinc (v := x3 + 1) (lv' := [(3, .int (x3 + 1)), (2, .int x2), (4, .int 1), (0, .ref (E.2.2 1299)), (1, .int x)]) hF.1 hF.2.1 dX12_briefOf_97 hl (k := 4) rfl rfl (by decide) rfl (fun ls hl => ?_)
                  refine lv_goto (tgt := 4) hF.1 hF.2.1 dX12_briefOf_100 (by decide) ?_
                  exact ih x2 (x3 + 1) u _ _ _ rfl (g_X12_briefOf_v26 u x x2 x3 r_8 hI hv hvs h_k h_f h_g hs_1 c9_2 hb_3 hs_4 c29_5 c42_9 c57_10 c73_11 c88_12) (g_X12_briefOf_v27 u x x2 x3 r_8 hI hv hvs h_k h_f h_g hs_1 c9_2 hb_3 hs_4 c29_5 c42_9 c57_10 c73_11 c88_12) (g_X12_briefOf_v28 u x x2 x3 r_8 hI hv hvs h_k h_f h_g hs_1 c9_2 hb_3 hs_4 c29_5 c42_9 c57_10 c73_11 c88_12) (Nat.lt_of_lt_of_le (g_X12_briefOf_v29 u x x2 x3 r_8 hI hv hvs h_k h_f h_g hs_1 c9_2 hb_3 hs_4 c29_5 c42_9 c57_10 c73_11 c88_12) (Nat.lt_succ_iff.mp hmu)) hU hS (lv_sub hl [3, 4, 1, 0] rfl)
                · refine lv_iload_n hF.1 hF.2.1 dX12_briefOf_91 rfl (lv_at hl 4 rfl) ?_
                  refine lv_goto (tgt := 96) hF.1 hF.2.1 dX12_briefOf_92 (by decide) ?_
                  refine lv_istore_n (lv' := [(2, .int x3), (4, .int 1), (0, .ref (E.2.2 1299)), (1, .int x), (3, .int x3)]) hF.1 hF.2.1 dX12_briefOf_96 rfl hl (by decide) rfl (fun ls hl => ?_)
                  refine lv_iinc (v := x3 + 1) (lv' := [(3, .int (x3 + 1)), (2, .int x3), (4, .int 1), (0, .ref (E.2.2 1299)), (1, .int x)]) hF.1 hF.2.1 dX12_briefOf_97 hl (k := 4) rfl rfl (by decide) rfl (fun ls hl => ?_)
                  refine lv_goto (tgt := 4) hF.1 hF.2.1 dX12_briefOf_100 (by decide) ?_
                  exact ih x3 (x3 + 1) u _ _ _ rfl (g_X12_briefOf_v30 u x x2 x3 r_8 hI hv hvs h_k h_f h_g hs_1 c9_2 hb_3 hs_4 c29_5 c42_9 c57_10 c73_11 c88_12) (g_X12_briefOf_v31 u x x2 x3 r_8 hI hv hvs h_k h_f h_g hs_1 c9_2 hb_3 hs_4 c29_5 c42_9 c57_10 c73_11 c88_12) (g_X12_briefOf_v32 u x x2 x3 r_8 hI hv hvs h_k h_f h_g hs_1 c9_2 hb_3 hs_4 c29_5 c42_9 c57_10 c73_11 c88_12) (Nat.lt_of_lt_of_le (g_X12_briefOf_v33 u x x2 x3 r_8 hI hv hvs h_k h_f h_g hs_1 c9_2 hb_3 hs_4 c29_5 c42_9 c57_10 c73_11 c88_12) (Nat.lt_succ_iff.mp hmu)) hU hS (lv_sub hl [3, 4, 1, 0] rfl)
  refine lv_iconst (v := (-1)) hF.1 hF.2.1 dX12_briefOf_0 (by decide) ?_
  refine lv_istore_n (lv' := [(2, .int (-1)), (0, .ref (E.2.2 1299)), (1, .int x)]) hF.1 hF.2.1 dX12_briefOf_1 rfl hl (by decide) rfl (fun ls hl => ?_)
  refine lv_iconst (v := 0) hF.1 hF.2.1 dX12_briefOf_2 (by decide) ?_
  refine lv_istore_n (lv' := [(3, .int 0), (2, .int (-1)), (0, .ref (E.2.2 1299)), (1, .int x)]) hF.1 hF.2.1 dX12_briefOf_3 rfl hl (by decide) rfl (fun ls hl => ?_)
  exact (main _) ((-1) : Int32) (0 : Int32) u _ _ _ rfl (g_X12_briefOf_v34 u x hI hv hvs) (g_X12_briefOf_v35 u x hI hv hvs) (g_X12_briefOf_v36 u x hI hv hvs) (Nat.lt_succ_self _) hU hS (lv_sub hl [2, 3, 1, 0] rfl)
set_option maxRecDepth 100000 in
theorem g_X12_latest_v0 (u : qS) (y : Int32) (x3 : Int32) (x4 : Int32) (hI : IM u) (hy : y < u.1 1247) (h_k : 0 ≤ x4) (h_f : -1 ≤ x3) (h_g : x3 < u.1 1247) (hs_1 : 0 ≤ u.1 1247 ∧ u.1 1247 ≤ 120) (c11_2 : (u.1 1247) ≤ (x4 : Int32)) : -1 ≤ (x3 : Int32) ∧ (x3 : Int32) < u.1 1247 := by
  first | omega | ((try simp only [Int32.lt_iff_toInt_lt, Int32.le_iff_toInt_le, ← Int32.toInt_inj, Int32.toInt_add, Int32.toInt_sub, Int32.toInt_mul, Int32.toInt_neg, Int32.reduceToInt, g_bm, g_bm'] at *); omega) | (simp only [Int32.lt_iff_toInt_lt, Int32.le_iff_toInt_le, ← Int32.toInt_inj, Int32.toInt_add, Int32.toInt_sub, Int32.toInt_mul, Int32.toInt_neg, Int32.reduceToInt, g_bm, g_bm'] at *; simp at *; omega) | (simp_all; done)
set_option maxRecDepth 100000 in
theorem g_X12_latest_v1 (u : qS) (y : Int32) (x3 : Int32) (x4 : Int32) (hI : IM u) (hy : y < u.1 1247) (h_k : 0 ≤ x4) (h_f : -1 ≤ x3) (h_g : x3 < u.1 1247) (hs_1 : 0 ≤ u.1 1247 ∧ u.1 1247 ≤ 120) (c11_2 : ¬ (u.1 1247) ≤ (x4 : Int32)) (b17_6 : 0 ≤ x4 ∧ x4 < u.1 1247) : vp_in (x4) 120 := by
  refine g_in ?_ ?_ <;> ((try simp only [Int32.lt_iff_toInt_lt, Int32.le_iff_toInt_le, ← Int32.toInt_inj, Int32.toInt_add, Int32.toInt_sub, Int32.toInt_mul, Int32.toInt_neg, Int32.reduceToInt, g_bm, g_bm'] at *); omega)
set_option maxRecDepth 100000 in
theorem g_X12_latest_v2 (u : qS) (y : Int32) (x3 : Int32) (x4 : Int32) (hI : IM u) (hy : y < u.1 1247) (h_k : 0 ≤ x4) (h_f : -1 ≤ x3) (h_g : x3 < u.1 1247) (hs_1 : 0 ≤ u.1 1247 ∧ u.1 1247 ≤ 120) (c11_2 : ¬ (u.1 1247) ≤ (x4 : Int32)) (b17_6 : 0 ≤ x4 ∧ x4 < u.1 1247) : 0 ≤ x4 ∧ x4 < u.1 1247 := by
  first | omega | ((try simp only [Int32.lt_iff_toInt_lt, Int32.le_iff_toInt_le, ← Int32.toInt_inj, Int32.toInt_add, Int32.toInt_sub, Int32.toInt_mul, Int32.toInt_neg, Int32.reduceToInt, g_bm, g_bm'] at *); omega) | (simp only [Int32.lt_iff_toInt_lt, Int32.le_iff_toInt_le, ← Int32.toInt_inj, Int32.toInt_add, Int32.toInt_sub, Int32.toInt_mul, Int32.toInt_neg, Int32.reduceToInt, g_bm, g_bm'] at *; simp at *; omega) | (simp_all; done)
set_option maxRecDepth 100000 in
theorem g_X12_latest_v3 (u : qS) (x : Int32) (y : Int32) (x3 : Int32) (x4 : Int32) (hI : IM u) (hy : y < u.1 1247) (h_k : 0 ≤ x4) (h_f : -1 ≤ x3) (h_g : x3 < u.1 1247) (hs_1 : 0 ≤ u.1 1247 ∧ u.1 1247 ≤ 120) (c11_2 : ¬ (u.1 1247) ≤ (x4 : Int32)) (b17_6 : 0 ≤ x4 ∧ x4 < u.1 1247) (hb_7 : 0 ≤ (u.2.1 1248 (x4 : Int32).toNatClampNeg) ∧ (u.2.1 1248 (x4 : Int32).toNatClampNeg) < u.1 1232) (hs_8 : 0 ≤ u.1 1232 ∧ u.1 1232 ≤ 20) (c31_9 : ¬ (u.2.1 1248 (x4 : Int32).toNatClampNeg : Int32) = x) : 0 ≤ (x4 + 1) := by
  first | omega | ((try simp only [Int32.lt_iff_toInt_lt, Int32.le_iff_toInt_le, ← Int32.toInt_inj, Int32.toInt_add, Int32.toInt_sub, Int32.toInt_mul, Int32.toInt_neg, Int32.reduceToInt, g_bm, g_bm'] at *); omega) | (simp only [Int32.lt_iff_toInt_lt, Int32.le_iff_toInt_le, ← Int32.toInt_inj, Int32.toInt_add, Int32.toInt_sub, Int32.toInt_mul, Int32.toInt_neg, Int32.reduceToInt, g_bm, g_bm'] at *; simp at *; omega) | (simp_all; done)
set_option maxRecDepth 100000 in
theorem g_X12_latest_v4 (u : qS) (x : Int32) (y : Int32) (x3 : Int32) (x4 : Int32) (hI : IM u) (hy : y < u.1 1247) (h_k : 0 ≤ x4) (h_f : -1 ≤ x3) (h_g : x3 < u.1 1247) (hs_1 : 0 ≤ u.1 1247 ∧ u.1 1247 ≤ 120) (c11_2 : ¬ (u.1 1247) ≤ (x4 : Int32)) (b17_6 : 0 ≤ x4 ∧ x4 < u.1 1247) (hb_7 : 0 ≤ (u.2.1 1248 (x4 : Int32).toNatClampNeg) ∧ (u.2.1 1248 (x4 : Int32).toNatClampNeg) < u.1 1232) (hs_8 : 0 ≤ u.1 1232 ∧ u.1 1232 ≤ 20) (c31_9 : ¬ (u.2.1 1248 (x4 : Int32).toNatClampNeg : Int32) = x) : -1 ≤ x3 := by
  first | omega | ((try simp only [Int32.lt_iff_toInt_lt, Int32.le_iff_toInt_le, ← Int32.toInt_inj, Int32.toInt_add, Int32.toInt_sub, Int32.toInt_mul, Int32.toInt_neg, Int32.reduceToInt, g_bm, g_bm'] at *); omega) | (simp only [Int32.lt_iff_toInt_lt, Int32.le_iff_toInt_le, ← Int32.toInt_inj, Int32.toInt_add, Int32.toInt_sub, Int32.toInt_mul, Int32.toInt_neg, Int32.reduceToInt, g_bm, g_bm'] at *; simp at *; omega) | (simp_all; done)
set_option maxRecDepth 100000 in
theorem g_X12_latest_v5 (u : qS) (x : Int32) (y : Int32) (x3 : Int32) (x4 : Int32) (hI : IM u) (hy : y < u.1 1247) (h_k : 0 ≤ x4) (h_f : -1 ≤ x3) (h_g : x3 < u.1 1247) (hs_1 : 0 ≤ u.1 1247 ∧ u.1 1247 ≤ 120) (c11_2 : ¬ (u.1 1247) ≤ (x4 : Int32)) (b17_6 : 0 ≤ x4 ∧ x4 < u.1 1247) (hb_7 : 0 ≤ (u.2.1 1248 (x4 : Int32).toNatClampNeg) ∧ (u.2.1 1248 (x4 : Int32).toNatClampNeg) < u.1 1232) (hs_8 : 0 ≤ u.1 1232 ∧ u.1 1232 ≤ 20) (c31_9 : ¬ (u.2.1 1248 (x4 : Int32).toNatClampNeg : Int32) = x) : x3 < u.1 1247 := by
  first | omega | ((try simp only [Int32.lt_iff_toInt_lt, Int32.le_iff_toInt_le, ← Int32.toInt_inj, Int32.toInt_add, Int32.toInt_sub, Int32.toInt_mul, Int32.toInt_neg, Int32.reduceToInt, g_bm, g_bm'] at *); omega) | (simp only [Int32.lt_iff_toInt_lt, Int32.le_iff_toInt_le, ← Int32.toInt_inj, Int32.toInt_add, Int32.toInt_sub, Int32.toInt_mul, Int32.toInt_neg, Int32.reduceToInt, g_bm, g_bm'] at *; simp at *; omega) | (simp_all; done)
set_option maxRecDepth 100000 in
theorem g_X12_latest_v6 (u : qS) (x : Int32) (y : Int32) (x3 : Int32) (x4 : Int32) (hI : IM u) (hy : y < u.1 1247) (h_k : 0 ≤ x4) (h_f : -1 ≤ x3) (h_g : x3 < u.1 1247) (hs_1 : 0 ≤ u.1 1247 ∧ u.1 1247 ≤ 120) (c11_2 : ¬ (u.1 1247) ≤ (x4 : Int32)) (b17_6 : 0 ≤ x4 ∧ x4 < u.1 1247) (hb_7 : 0 ≤ (u.2.1 1248 (x4 : Int32).toNatClampNeg) ∧ (u.2.1 1248 (x4 : Int32).toNatClampNeg) < u.1 1232) (hs_8 : 0 ≤ u.1 1232 ∧ u.1 1232 ≤ 20) (c31_9 : ¬ (u.2.1 1248 (x4 : Int32).toNatClampNeg : Int32) = x) : ((u.1 1247).toInt - (x4 + 1).toInt).toNat < ((u.1 1247).toInt - x4.toInt).toNat := by
  first | omega | ((try simp only [Int32.lt_iff_toInt_lt, Int32.le_iff_toInt_le, ← Int32.toInt_inj, Int32.toInt_add, Int32.toInt_sub, Int32.toInt_mul, Int32.toInt_neg, Int32.reduceToInt, g_bm, g_bm'] at *); omega) | (simp only [Int32.lt_iff_toInt_lt, Int32.le_iff_toInt_le, ← Int32.toInt_inj, Int32.toInt_add, Int32.toInt_sub, Int32.toInt_mul, Int32.toInt_neg, Int32.reduceToInt, g_bm, g_bm'] at *; simp at *; omega) | (simp_all; done)
set_option maxRecDepth 100000 in
theorem g_X12_latest_v7 (u : qS) (x : Int32) (y : Int32) (x3 : Int32) (x4 : Int32) (hI : IM u) (hy : y < u.1 1247) (h_k : 0 ≤ x4) (h_f : -1 ≤ x3) (h_g : x3 < u.1 1247) (hs_1 : 0 ≤ u.1 1247 ∧ u.1 1247 ≤ 120) (c11_2 : ¬ (u.1 1247) ≤ (x4 : Int32)) (b17_6 : 0 ≤ x4 ∧ x4 < u.1 1247) (hb_7 : 0 ≤ (u.2.1 1248 (x4 : Int32).toNatClampNeg) ∧ (u.2.1 1248 (x4 : Int32).toNatClampNeg) < u.1 1232) (hs_8 : 0 ≤ u.1 1232 ∧ u.1 1232 ≤ 20) (c31_9 : (u.2.1 1248 (x4 : Int32).toNatClampNeg : Int32) = x) (c35_10 : (y : Int32) < 0) (c61_11 : (x3 : Int32) < 0) : 0 ≤ (x4 + 1) := by
  first | omega | ((try simp only [Int32.lt_iff_toInt_lt, Int32.le_iff_toInt_le, ← Int32.toInt_inj, Int32.toInt_add, Int32.toInt_sub, Int32.toInt_mul, Int32.toInt_neg, Int32.reduceToInt, g_bm, g_bm'] at *); omega) | (simp only [Int32.lt_iff_toInt_lt, Int32.le_iff_toInt_le, ← Int32.toInt_inj, Int32.toInt_add, Int32.toInt_sub, Int32.toInt_mul, Int32.toInt_neg, Int32.reduceToInt, g_bm, g_bm'] at *; simp at *; omega) | (simp_all; done)
set_option maxRecDepth 100000 in
theorem g_X12_latest_v8 (u : qS) (x : Int32) (y : Int32) (x3 : Int32) (x4 : Int32) (hI : IM u) (hy : y < u.1 1247) (h_k : 0 ≤ x4) (h_f : -1 ≤ x3) (h_g : x3 < u.1 1247) (hs_1 : 0 ≤ u.1 1247 ∧ u.1 1247 ≤ 120) (c11_2 : ¬ (u.1 1247) ≤ (x4 : Int32)) (b17_6 : 0 ≤ x4 ∧ x4 < u.1 1247) (hb_7 : 0 ≤ (u.2.1 1248 (x4 : Int32).toNatClampNeg) ∧ (u.2.1 1248 (x4 : Int32).toNatClampNeg) < u.1 1232) (hs_8 : 0 ≤ u.1 1232 ∧ u.1 1232 ≤ 20) (c31_9 : (u.2.1 1248 (x4 : Int32).toNatClampNeg : Int32) = x) (c35_10 : (y : Int32) < 0) (c61_11 : (x3 : Int32) < 0) : -1 ≤ x4 := by
  first | omega | ((try simp only [Int32.lt_iff_toInt_lt, Int32.le_iff_toInt_le, ← Int32.toInt_inj, Int32.toInt_add, Int32.toInt_sub, Int32.toInt_mul, Int32.toInt_neg, Int32.reduceToInt, g_bm, g_bm'] at *); omega) | (simp only [Int32.lt_iff_toInt_lt, Int32.le_iff_toInt_le, ← Int32.toInt_inj, Int32.toInt_add, Int32.toInt_sub, Int32.toInt_mul, Int32.toInt_neg, Int32.reduceToInt, g_bm, g_bm'] at *; simp at *; omega) | (simp_all; done)
set_option maxRecDepth 100000 in
theorem g_X12_latest_v9 (u : qS) (x : Int32) (y : Int32) (x3 : Int32) (x4 : Int32) (hI : IM u) (hy : y < u.1 1247) (h_k : 0 ≤ x4) (h_f : -1 ≤ x3) (h_g : x3 < u.1 1247) (hs_1 : 0 ≤ u.1 1247 ∧ u.1 1247 ≤ 120) (c11_2 : ¬ (u.1 1247) ≤ (x4 : Int32)) (b17_6 : 0 ≤ x4 ∧ x4 < u.1 1247) (hb_7 : 0 ≤ (u.2.1 1248 (x4 : Int32).toNatClampNeg) ∧ (u.2.1 1248 (x4 : Int32).toNatClampNeg) < u.1 1232) (hs_8 : 0 ≤ u.1 1232 ∧ u.1 1232 ≤ 20) (c31_9 : (u.2.1 1248 (x4 : Int32).toNatClampNeg : Int32) = x) (c35_10 : (y : Int32) < 0) (c61_11 : (x3 : Int32) < 0) : x4 < u.1 1247 := by
  first | omega | ((try simp only [Int32.lt_iff_toInt_lt, Int32.le_iff_toInt_le, ← Int32.toInt_inj, Int32.toInt_add, Int32.toInt_sub, Int32.toInt_mul, Int32.toInt_neg, Int32.reduceToInt, g_bm, g_bm'] at *); omega) | (simp only [Int32.lt_iff_toInt_lt, Int32.le_iff_toInt_le, ← Int32.toInt_inj, Int32.toInt_add, Int32.toInt_sub, Int32.toInt_mul, Int32.toInt_neg, Int32.reduceToInt, g_bm, g_bm'] at *; simp at *; omega) | (simp_all; done)
set_option maxRecDepth 100000 in
theorem g_X12_latest_v10 (u : qS) (x : Int32) (y : Int32) (x3 : Int32) (x4 : Int32) (hI : IM u) (hy : y < u.1 1247) (h_k : 0 ≤ x4) (h_f : -1 ≤ x3) (h_g : x3 < u.1 1247) (hs_1 : 0 ≤ u.1 1247 ∧ u.1 1247 ≤ 120) (c11_2 : ¬ (u.1 1247) ≤ (x4 : Int32)) (b17_6 : 0 ≤ x4 ∧ x4 < u.1 1247) (hb_7 : 0 ≤ (u.2.1 1248 (x4 : Int32).toNatClampNeg) ∧ (u.2.1 1248 (x4 : Int32).toNatClampNeg) < u.1 1232) (hs_8 : 0 ≤ u.1 1232 ∧ u.1 1232 ≤ 20) (c31_9 : (u.2.1 1248 (x4 : Int32).toNatClampNeg : Int32) = x) (c35_10 : (y : Int32) < 0) (c61_11 : (x3 : Int32) < 0) : ((u.1 1247).toInt - (x4 + 1).toInt).toNat < ((u.1 1247).toInt - x4.toInt).toNat := by
  first | omega | ((try simp only [Int32.lt_iff_toInt_lt, Int32.le_iff_toInt_le, ← Int32.toInt_inj, Int32.toInt_add, Int32.toInt_sub, Int32.toInt_mul, Int32.toInt_neg, Int32.reduceToInt, g_bm, g_bm'] at *); omega) | (simp only [Int32.lt_iff_toInt_lt, Int32.le_iff_toInt_le, ← Int32.toInt_inj, Int32.toInt_add, Int32.toInt_sub, Int32.toInt_mul, Int32.toInt_neg, Int32.reduceToInt, g_bm, g_bm'] at *; simp at *; omega) | (simp_all; done)
set_option maxRecDepth 100000 in
theorem g_X12_latest_v11 (u : qS) (x : Int32) (y : Int32) (x3 : Int32) (x4 : Int32) (hI : IM u) (hy : y < u.1 1247) (h_k : 0 ≤ x4) (h_f : -1 ≤ x3) (h_g : x3 < u.1 1247) (hs_1 : 0 ≤ u.1 1247 ∧ u.1 1247 ≤ 120) (c11_2 : ¬ (u.1 1247) ≤ (x4 : Int32)) (b17_6 : 0 ≤ x4 ∧ x4 < u.1 1247) (hb_7 : 0 ≤ (u.2.1 1248 (x4 : Int32).toNatClampNeg) ∧ (u.2.1 1248 (x4 : Int32).toNatClampNeg) < u.1 1232) (hs_8 : 0 ≤ u.1 1232 ∧ u.1 1232 ≤ 20) (c31_9 : (u.2.1 1248 (x4 : Int32).toNatClampNeg : Int32) = x) (c35_10 : (y : Int32) < 0) (c61_11 : ¬ (x3 : Int32) < 0) : 0 ≤ x3 ∧ x3 < (u.1 1247 : Int32) := by
  first | omega | ((try simp only [Int32.lt_iff_toInt_lt, Int32.le_iff_toInt_le, ← Int32.toInt_inj, Int32.toInt_add, Int32.toInt_sub, Int32.toInt_mul, Int32.toInt_neg, Int32.reduceToInt, g_bm, g_bm'] at *); omega) | (simp only [Int32.lt_iff_toInt_lt, Int32.le_iff_toInt_le, ← Int32.toInt_inj, Int32.toInt_add, Int32.toInt_sub, Int32.toInt_mul, Int32.toInt_neg, Int32.reduceToInt, g_bm, g_bm'] at *; simp at *; omega) | (simp_all; done)
set_option maxRecDepth 100000 in
theorem g_X12_latest_v12 (u : qS) (x : Int32) (y : Int32) (x3 : Int32) (x4 : Int32) (hI : IM u) (hy : y < u.1 1247) (h_k : 0 ≤ x4) (h_f : -1 ≤ x3) (h_g : x3 < u.1 1247) (hs_1 : 0 ≤ u.1 1247 ∧ u.1 1247 ≤ 120) (c11_2 : ¬ (u.1 1247) ≤ (x4 : Int32)) (b17_6 : 0 ≤ x4 ∧ x4 < u.1 1247) (hb_7 : 0 ≤ (u.2.1 1248 (x4 : Int32).toNatClampNeg) ∧ (u.2.1 1248 (x4 : Int32).toNatClampNeg) < u.1 1232) (hs_8 : 0 ≤ u.1 1232 ∧ u.1 1232 ≤ 20) (c31_9 : (u.2.1 1248 (x4 : Int32).toNatClampNeg : Int32) = x) (c35_10 : (y : Int32) < 0) (c61_11 : ¬ (x3 : Int32) < 0) : 0 ≤ x4 ∧ x4 < (u.1 1247 : Int32) := by
  first | omega | ((try simp only [Int32.lt_iff_toInt_lt, Int32.le_iff_toInt_le, ← Int32.toInt_inj, Int32.toInt_add, Int32.toInt_sub, Int32.toInt_mul, Int32.toInt_neg, Int32.reduceToInt, g_bm, g_bm'] at *); omega) | (simp only [Int32.lt_iff_toInt_lt, Int32.le_iff_toInt_le, ← Int32.toInt_inj, Int32.toInt_add, Int32.toInt_sub, Int32.toInt_mul, Int32.toInt_neg, Int32.reduceToInt, g_bm, g_bm'] at *; simp at *; omega) | (simp_all; done)
set_option maxRecDepth 100000 in
theorem g_X12_latest_v13 (u : qS) (x : Int32) (y : Int32) (x3 : Int32) (x4 : Int32) (hI : IM u) (hy : y < u.1 1247) (h_k : 0 ≤ x4) (h_f : -1 ≤ x3) (h_g : x3 < u.1 1247) (hs_1 : 0 ≤ u.1 1247 ∧ u.1 1247 ≤ 120) (c11_2 : ¬ (u.1 1247) ≤ (x4 : Int32)) (b17_6 : 0 ≤ x4 ∧ x4 < u.1 1247) (hb_7 : 0 ≤ (u.2.1 1248 (x4 : Int32).toNatClampNeg) ∧ (u.2.1 1248 (x4 : Int32).toNatClampNeg) < u.1 1232) (hs_8 : 0 ≤ u.1 1232 ∧ u.1 1232 ≤ 20) (c31_9 : (u.2.1 1248 (x4 : Int32).toNatClampNeg : Int32) = x) (c35_10 : (y : Int32) < 0) (c61_11 : ¬ (x3 : Int32) < 0) : (u.1 1247 : Int32) ≤ 120 := by
  first | omega | ((try simp only [Int32.lt_iff_toInt_lt, Int32.le_iff_toInt_le, ← Int32.toInt_inj, Int32.toInt_add, Int32.toInt_sub, Int32.toInt_mul, Int32.toInt_neg, Int32.reduceToInt, g_bm, g_bm'] at *); omega) | (simp only [Int32.lt_iff_toInt_lt, Int32.le_iff_toInt_le, ← Int32.toInt_inj, Int32.toInt_add, Int32.toInt_sub, Int32.toInt_mul, Int32.toInt_neg, Int32.reduceToInt, g_bm, g_bm'] at *; simp at *; omega) | (simp_all; done)
set_option maxRecDepth 100000 in
theorem g_X12_latest_v14 (u : qS) (x : Int32) (y : Int32) (x3 : Int32) (x4 : Int32) (hI : IM u) (hy : y < u.1 1247) (h_k : 0 ≤ x4) (h_f : -1 ≤ x3) (h_g : x3 < u.1 1247) (hs_1 : 0 ≤ u.1 1247 ∧ u.1 1247 ≤ 120) (c11_2 : ¬ (u.1 1247) ≤ (x4 : Int32)) (b17_6 : 0 ≤ x4 ∧ x4 < u.1 1247) (hb_7 : 0 ≤ (u.2.1 1248 (x4 : Int32).toNatClampNeg) ∧ (u.2.1 1248 (x4 : Int32).toNatClampNeg) < u.1 1232) (hs_8 : 0 ≤ u.1 1232 ∧ u.1 1232 ≤ 20) (c31_9 : (u.2.1 1248 (x4 : Int32).toNatClampNeg : Int32) = x) (c35_10 : (y : Int32) < 0) (c61_11 : ¬ (x3 : Int32) < 0) : 0 ≤ (x4 + 1) := by
  first | omega | ((try simp only [Int32.lt_iff_toInt_lt, Int32.le_iff_toInt_le, ← Int32.toInt_inj, Int32.toInt_add, Int32.toInt_sub, Int32.toInt_mul, Int32.toInt_neg, Int32.reduceToInt, g_bm, g_bm'] at *); omega) | (simp only [Int32.lt_iff_toInt_lt, Int32.le_iff_toInt_le, ← Int32.toInt_inj, Int32.toInt_add, Int32.toInt_sub, Int32.toInt_mul, Int32.toInt_neg, Int32.reduceToInt, g_bm, g_bm'] at *; simp at *; omega) | (simp_all; done)
set_option maxRecDepth 100000 in
theorem g_X12_latest_v15 (u : qS) (x : Int32) (y : Int32) (x3 : Int32) (x4 : Int32) (hI : IM u) (hy : y < u.1 1247) (h_k : 0 ≤ x4) (h_f : -1 ≤ x3) (h_g : x3 < u.1 1247) (hs_1 : 0 ≤ u.1 1247 ∧ u.1 1247 ≤ 120) (c11_2 : ¬ (u.1 1247) ≤ (x4 : Int32)) (b17_6 : 0 ≤ x4 ∧ x4 < u.1 1247) (hb_7 : 0 ≤ (u.2.1 1248 (x4 : Int32).toNatClampNeg) ∧ (u.2.1 1248 (x4 : Int32).toNatClampNeg) < u.1 1232) (hs_8 : 0 ≤ u.1 1232 ∧ u.1 1232 ≤ 20) (c31_9 : (u.2.1 1248 (x4 : Int32).toNatClampNeg : Int32) = x) (c35_10 : (y : Int32) < 0) (c61_11 : ¬ (x3 : Int32) < 0) : -1 ≤ x4 := by
  first | omega | ((try simp only [Int32.lt_iff_toInt_lt, Int32.le_iff_toInt_le, ← Int32.toInt_inj, Int32.toInt_add, Int32.toInt_sub, Int32.toInt_mul, Int32.toInt_neg, Int32.reduceToInt, g_bm, g_bm'] at *); omega) | (simp only [Int32.lt_iff_toInt_lt, Int32.le_iff_toInt_le, ← Int32.toInt_inj, Int32.toInt_add, Int32.toInt_sub, Int32.toInt_mul, Int32.toInt_neg, Int32.reduceToInt, g_bm, g_bm'] at *; simp at *; omega) | (simp_all; done)
set_option maxRecDepth 100000 in
theorem g_X12_latest_v16 (u : qS) (x : Int32) (y : Int32) (x3 : Int32) (x4 : Int32) (hI : IM u) (hy : y < u.1 1247) (h_k : 0 ≤ x4) (h_f : -1 ≤ x3) (h_g : x3 < u.1 1247) (hs_1 : 0 ≤ u.1 1247 ∧ u.1 1247 ≤ 120) (c11_2 : ¬ (u.1 1247) ≤ (x4 : Int32)) (b17_6 : 0 ≤ x4 ∧ x4 < u.1 1247) (hb_7 : 0 ≤ (u.2.1 1248 (x4 : Int32).toNatClampNeg) ∧ (u.2.1 1248 (x4 : Int32).toNatClampNeg) < u.1 1232) (hs_8 : 0 ≤ u.1 1232 ∧ u.1 1232 ≤ 20) (c31_9 : (u.2.1 1248 (x4 : Int32).toNatClampNeg : Int32) = x) (c35_10 : (y : Int32) < 0) (c61_11 : ¬ (x3 : Int32) < 0) : x4 < u.1 1247 := by
  first | omega | ((try simp only [Int32.lt_iff_toInt_lt, Int32.le_iff_toInt_le, ← Int32.toInt_inj, Int32.toInt_add, Int32.toInt_sub, Int32.toInt_mul, Int32.toInt_neg, Int32.reduceToInt, g_bm, g_bm'] at *); omega) | (simp only [Int32.lt_iff_toInt_lt, Int32.le_iff_toInt_le, ← Int32.toInt_inj, Int32.toInt_add, Int32.toInt_sub, Int32.toInt_mul, Int32.toInt_neg, Int32.reduceToInt, g_bm, g_bm'] at *; simp at *; omega) | (simp_all; done)
set_option maxRecDepth 100000 in
theorem g_X12_latest_v17 (u : qS) (x : Int32) (y : Int32) (x3 : Int32) (x4 : Int32) (hI : IM u) (hy : y < u.1 1247) (h_k : 0 ≤ x4) (h_f : -1 ≤ x3) (h_g : x3 < u.1 1247) (hs_1 : 0 ≤ u.1 1247 ∧ u.1 1247 ≤ 120) (c11_2 : ¬ (u.1 1247) ≤ (x4 : Int32)) (b17_6 : 0 ≤ x4 ∧ x4 < u.1 1247) (hb_7 : 0 ≤ (u.2.1 1248 (x4 : Int32).toNatClampNeg) ∧ (u.2.1 1248 (x4 : Int32).toNatClampNeg) < u.1 1232) (hs_8 : 0 ≤ u.1 1232 ∧ u.1 1232 ≤ 20) (c31_9 : (u.2.1 1248 (x4 : Int32).toNatClampNeg : Int32) = x) (c35_10 : (y : Int32) < 0) (c61_11 : ¬ (x3 : Int32) < 0) : ((u.1 1247).toInt - (x4 + 1).toInt).toNat < ((u.1 1247).toInt - x4.toInt).toNat := by
  first | omega | ((try simp only [Int32.lt_iff_toInt_lt, Int32.le_iff_toInt_le, ← Int32.toInt_inj, Int32.toInt_add, Int32.toInt_sub, Int32.toInt_mul, Int32.toInt_neg, Int32.reduceToInt, g_bm, g_bm'] at *); omega) | (simp only [Int32.lt_iff_toInt_lt, Int32.le_iff_toInt_le, ← Int32.toInt_inj, Int32.toInt_add, Int32.toInt_sub, Int32.toInt_mul, Int32.toInt_neg, Int32.reduceToInt, g_bm, g_bm'] at *; simp at *; omega) | (simp_all; done)
set_option maxRecDepth 100000 in
theorem g_X12_latest_v18 (u : qS) (x : Int32) (y : Int32) (x3 : Int32) (x4 : Int32) (hI : IM u) (hy : y < u.1 1247) (h_k : 0 ≤ x4) (h_f : -1 ≤ x3) (h_g : x3 < u.1 1247) (hs_1 : 0 ≤ u.1 1247 ∧ u.1 1247 ≤ 120) (c11_2 : ¬ (u.1 1247) ≤ (x4 : Int32)) (b17_6 : 0 ≤ x4 ∧ x4 < u.1 1247) (hb_7 : 0 ≤ (u.2.1 1248 (x4 : Int32).toNatClampNeg) ∧ (u.2.1 1248 (x4 : Int32).toNatClampNeg) < u.1 1232) (hs_8 : 0 ≤ u.1 1232 ∧ u.1 1232 ≤ 20) (c31_9 : (u.2.1 1248 (x4 : Int32).toNatClampNeg : Int32) = x) (c35_10 : (y : Int32) < 0) (c61_11 : ¬ (x3 : Int32) < 0) : 0 ≤ (x4 + 1) := by
  first | omega | ((try simp only [Int32.lt_iff_toInt_lt, Int32.le_iff_toInt_le, ← Int32.toInt_inj, Int32.toInt_add, Int32.toInt_sub, Int32.toInt_mul, Int32.toInt_neg, Int32.reduceToInt, g_bm, g_bm'] at *); omega) | (simp only [Int32.lt_iff_toInt_lt, Int32.le_iff_toInt_le, ← Int32.toInt_inj, Int32.toInt_add, Int32.toInt_sub, Int32.toInt_mul, Int32.toInt_neg, Int32.reduceToInt, g_bm, g_bm'] at *; simp at *; omega) | (simp_all; done)
set_option maxRecDepth 100000 in
theorem g_X12_latest_v19 (u : qS) (x : Int32) (y : Int32) (x3 : Int32) (x4 : Int32) (hI : IM u) (hy : y < u.1 1247) (h_k : 0 ≤ x4) (h_f : -1 ≤ x3) (h_g : x3 < u.1 1247) (hs_1 : 0 ≤ u.1 1247 ∧ u.1 1247 ≤ 120) (c11_2 : ¬ (u.1 1247) ≤ (x4 : Int32)) (b17_6 : 0 ≤ x4 ∧ x4 < u.1 1247) (hb_7 : 0 ≤ (u.2.1 1248 (x4 : Int32).toNatClampNeg) ∧ (u.2.1 1248 (x4 : Int32).toNatClampNeg) < u.1 1232) (hs_8 : 0 ≤ u.1 1232 ∧ u.1 1232 ≤ 20) (c31_9 : (u.2.1 1248 (x4 : Int32).toNatClampNeg : Int32) = x) (c35_10 : (y : Int32) < 0) (c61_11 : ¬ (x3 : Int32) < 0) : -1 ≤ x3 := by
  first | omega | ((try simp only [Int32.lt_iff_toInt_lt, Int32.le_iff_toInt_le, ← Int32.toInt_inj, Int32.toInt_add, Int32.toInt_sub, Int32.toInt_mul, Int32.toInt_neg, Int32.reduceToInt, g_bm, g_bm'] at *); omega) | (simp only [Int32.lt_iff_toInt_lt, Int32.le_iff_toInt_le, ← Int32.toInt_inj, Int32.toInt_add, Int32.toInt_sub, Int32.toInt_mul, Int32.toInt_neg, Int32.reduceToInt, g_bm, g_bm'] at *; simp at *; omega) | (simp_all; done)
set_option maxRecDepth 100000 in
theorem g_X12_latest_v20 (u : qS) (x : Int32) (y : Int32) (x3 : Int32) (x4 : Int32) (hI : IM u) (hy : y < u.1 1247) (h_k : 0 ≤ x4) (h_f : -1 ≤ x3) (h_g : x3 < u.1 1247) (hs_1 : 0 ≤ u.1 1247 ∧ u.1 1247 ≤ 120) (c11_2 : ¬ (u.1 1247) ≤ (x4 : Int32)) (b17_6 : 0 ≤ x4 ∧ x4 < u.1 1247) (hb_7 : 0 ≤ (u.2.1 1248 (x4 : Int32).toNatClampNeg) ∧ (u.2.1 1248 (x4 : Int32).toNatClampNeg) < u.1 1232) (hs_8 : 0 ≤ u.1 1232 ∧ u.1 1232 ≤ 20) (c31_9 : (u.2.1 1248 (x4 : Int32).toNatClampNeg : Int32) = x) (c35_10 : (y : Int32) < 0) (c61_11 : ¬ (x3 : Int32) < 0) : x3 < u.1 1247 := by
  first | omega | ((try simp only [Int32.lt_iff_toInt_lt, Int32.le_iff_toInt_le, ← Int32.toInt_inj, Int32.toInt_add, Int32.toInt_sub, Int32.toInt_mul, Int32.toInt_neg, Int32.reduceToInt, g_bm, g_bm'] at *); omega) | (simp only [Int32.lt_iff_toInt_lt, Int32.le_iff_toInt_le, ← Int32.toInt_inj, Int32.toInt_add, Int32.toInt_sub, Int32.toInt_mul, Int32.toInt_neg, Int32.reduceToInt, g_bm, g_bm'] at *; simp at *; omega) | (simp_all; done)
set_option maxRecDepth 100000 in
theorem g_X12_latest_v21 (u : qS) (x : Int32) (y : Int32) (x3 : Int32) (x4 : Int32) (hI : IM u) (hy : y < u.1 1247) (h_k : 0 ≤ x4) (h_f : -1 ≤ x3) (h_g : x3 < u.1 1247) (hs_1 : 0 ≤ u.1 1247 ∧ u.1 1247 ≤ 120) (c11_2 : ¬ (u.1 1247) ≤ (x4 : Int32)) (b17_6 : 0 ≤ x4 ∧ x4 < u.1 1247) (hb_7 : 0 ≤ (u.2.1 1248 (x4 : Int32).toNatClampNeg) ∧ (u.2.1 1248 (x4 : Int32).toNatClampNeg) < u.1 1232) (hs_8 : 0 ≤ u.1 1232 ∧ u.1 1232 ≤ 20) (c31_9 : (u.2.1 1248 (x4 : Int32).toNatClampNeg : Int32) = x) (c35_10 : (y : Int32) < 0) (c61_11 : ¬ (x3 : Int32) < 0) : ((u.1 1247).toInt - (x4 + 1).toInt).toNat < ((u.1 1247).toInt - x4.toInt).toNat := by
  first | omega | ((try simp only [Int32.lt_iff_toInt_lt, Int32.le_iff_toInt_le, ← Int32.toInt_inj, Int32.toInt_add, Int32.toInt_sub, Int32.toInt_mul, Int32.toInt_neg, Int32.reduceToInt, g_bm, g_bm'] at *); omega) | (simp only [Int32.lt_iff_toInt_lt, Int32.le_iff_toInt_le, ← Int32.toInt_inj, Int32.toInt_add, Int32.toInt_sub, Int32.toInt_mul, Int32.toInt_neg, Int32.reduceToInt, g_bm, g_bm'] at *; simp at *; omega) | (simp_all; done)
set_option maxRecDepth 100000 in
theorem g_X12_latest_v22 (u : qS) (x : Int32) (y : Int32) (x3 : Int32) (x4 : Int32) (hI : IM u) (hy : y < u.1 1247) (h_k : 0 ≤ x4) (h_f : -1 ≤ x3) (h_g : x3 < u.1 1247) (hs_1 : 0 ≤ u.1 1247 ∧ u.1 1247 ≤ 120) (c11_2 : ¬ (u.1 1247) ≤ (x4 : Int32)) (b17_6 : 0 ≤ x4 ∧ x4 < u.1 1247) (hb_7 : 0 ≤ (u.2.1 1248 (x4 : Int32).toNatClampNeg) ∧ (u.2.1 1248 (x4 : Int32).toNatClampNeg) < u.1 1232) (hs_8 : 0 ≤ u.1 1232 ∧ u.1 1232 ≤ 20) (c31_9 : (u.2.1 1248 (x4 : Int32).toNatClampNeg : Int32) = x) (c35_10 : ¬ (y : Int32) < 0) : 0 ≤ x4 ∧ x4 < (u.1 1247 : Int32) := by
  first | omega | ((try simp only [Int32.lt_iff_toInt_lt, Int32.le_iff_toInt_le, ← Int32.toInt_inj, Int32.toInt_add, Int32.toInt_sub, Int32.toInt_mul, Int32.toInt_neg, Int32.reduceToInt, g_bm, g_bm'] at *); omega) | (simp only [Int32.lt_iff_toInt_lt, Int32.le_iff_toInt_le, ← Int32.toInt_inj, Int32.toInt_add, Int32.toInt_sub, Int32.toInt_mul, Int32.toInt_neg, Int32.reduceToInt, g_bm, g_bm'] at *; simp at *; omega) | (simp_all; done)
set_option maxRecDepth 100000 in
theorem g_X12_latest_v23 (u : qS) (x : Int32) (y : Int32) (x3 : Int32) (x4 : Int32) (hI : IM u) (hy : y < u.1 1247) (h_k : 0 ≤ x4) (h_f : -1 ≤ x3) (h_g : x3 < u.1 1247) (hs_1 : 0 ≤ u.1 1247 ∧ u.1 1247 ≤ 120) (c11_2 : ¬ (u.1 1247) ≤ (x4 : Int32)) (b17_6 : 0 ≤ x4 ∧ x4 < u.1 1247) (hb_7 : 0 ≤ (u.2.1 1248 (x4 : Int32).toNatClampNeg) ∧ (u.2.1 1248 (x4 : Int32).toNatClampNeg) < u.1 1232) (hs_8 : 0 ≤ u.1 1232 ∧ u.1 1232 ≤ 20) (c31_9 : (u.2.1 1248 (x4 : Int32).toNatClampNeg : Int32) = x) (c35_10 : ¬ (y : Int32) < 0) : 0 ≤ y ∧ y < (u.1 1247 : Int32) := by
  first | omega | ((try simp only [Int32.lt_iff_toInt_lt, Int32.le_iff_toInt_le, ← Int32.toInt_inj, Int32.toInt_add, Int32.toInt_sub, Int32.toInt_mul, Int32.toInt_neg, Int32.reduceToInt, g_bm, g_bm'] at *); omega) | (simp only [Int32.lt_iff_toInt_lt, Int32.le_iff_toInt_le, ← Int32.toInt_inj, Int32.toInt_add, Int32.toInt_sub, Int32.toInt_mul, Int32.toInt_neg, Int32.reduceToInt, g_bm, g_bm'] at *; simp at *; omega) | (simp_all; done)
set_option maxRecDepth 100000 in
theorem g_X12_latest_v24 (u : qS) (x : Int32) (y : Int32) (x3 : Int32) (x4 : Int32) (hI : IM u) (hy : y < u.1 1247) (h_k : 0 ≤ x4) (h_f : -1 ≤ x3) (h_g : x3 < u.1 1247) (hs_1 : 0 ≤ u.1 1247 ∧ u.1 1247 ≤ 120) (c11_2 : ¬ (u.1 1247) ≤ (x4 : Int32)) (b17_6 : 0 ≤ x4 ∧ x4 < u.1 1247) (hb_7 : 0 ≤ (u.2.1 1248 (x4 : Int32).toNatClampNeg) ∧ (u.2.1 1248 (x4 : Int32).toNatClampNeg) < u.1 1232) (hs_8 : 0 ≤ u.1 1232 ∧ u.1 1232 ≤ 20) (c31_9 : (u.2.1 1248 (x4 : Int32).toNatClampNeg : Int32) = x) (c35_10 : ¬ (y : Int32) < 0) : (u.1 1247 : Int32) ≤ 120 := by
  first | omega | ((try simp only [Int32.lt_iff_toInt_lt, Int32.le_iff_toInt_le, ← Int32.toInt_inj, Int32.toInt_add, Int32.toInt_sub, Int32.toInt_mul, Int32.toInt_neg, Int32.reduceToInt, g_bm, g_bm'] at *); omega) | (simp only [Int32.lt_iff_toInt_lt, Int32.le_iff_toInt_le, ← Int32.toInt_inj, Int32.toInt_add, Int32.toInt_sub, Int32.toInt_mul, Int32.toInt_neg, Int32.reduceToInt, g_bm, g_bm'] at *; simp at *; omega) | (simp_all; done)
set_option maxRecDepth 100000 in
theorem g_X12_latest_v25 (u : qS) (x : Int32) (y : Int32) (x3 : Int32) (x4 : Int32) (hI : IM u) (hy : y < u.1 1247) (h_k : 0 ≤ x4) (h_f : -1 ≤ x3) (h_g : x3 < u.1 1247) (hs_1 : 0 ≤ u.1 1247 ∧ u.1 1247 ≤ 120) (c11_2 : ¬ (u.1 1247) ≤ (x4 : Int32)) (b17_6 : 0 ≤ x4 ∧ x4 < u.1 1247) (hb_7 : 0 ≤ (u.2.1 1248 (x4 : Int32).toNatClampNeg) ∧ (u.2.1 1248 (x4 : Int32).toNatClampNeg) < u.1 1232) (hs_8 : 0 ≤ u.1 1232 ∧ u.1 1232 ≤ 20) (c31_9 : (u.2.1 1248 (x4 : Int32).toNatClampNeg : Int32) = x) (c35_10 : ¬ (y : Int32) < 0) (c61_18 : (x3 : Int32) < 0) : 0 ≤ (x4 + 1) := by
  first | omega | ((try simp only [Int32.lt_iff_toInt_lt, Int32.le_iff_toInt_le, ← Int32.toInt_inj, Int32.toInt_add, Int32.toInt_sub, Int32.toInt_mul, Int32.toInt_neg, Int32.reduceToInt, g_bm, g_bm'] at *); omega) | (simp only [Int32.lt_iff_toInt_lt, Int32.le_iff_toInt_le, ← Int32.toInt_inj, Int32.toInt_add, Int32.toInt_sub, Int32.toInt_mul, Int32.toInt_neg, Int32.reduceToInt, g_bm, g_bm'] at *; simp at *; omega) | (simp_all; done)
set_option maxRecDepth 100000 in
theorem g_X12_latest_v26 (u : qS) (x : Int32) (y : Int32) (x3 : Int32) (x4 : Int32) (hI : IM u) (hy : y < u.1 1247) (h_k : 0 ≤ x4) (h_f : -1 ≤ x3) (h_g : x3 < u.1 1247) (hs_1 : 0 ≤ u.1 1247 ∧ u.1 1247 ≤ 120) (c11_2 : ¬ (u.1 1247) ≤ (x4 : Int32)) (b17_6 : 0 ≤ x4 ∧ x4 < u.1 1247) (hb_7 : 0 ≤ (u.2.1 1248 (x4 : Int32).toNatClampNeg) ∧ (u.2.1 1248 (x4 : Int32).toNatClampNeg) < u.1 1232) (hs_8 : 0 ≤ u.1 1232 ∧ u.1 1232 ≤ 20) (c31_9 : (u.2.1 1248 (x4 : Int32).toNatClampNeg : Int32) = x) (c35_10 : ¬ (y : Int32) < 0) (c61_18 : (x3 : Int32) < 0) : -1 ≤ x4 := by
  first | omega | ((try simp only [Int32.lt_iff_toInt_lt, Int32.le_iff_toInt_le, ← Int32.toInt_inj, Int32.toInt_add, Int32.toInt_sub, Int32.toInt_mul, Int32.toInt_neg, Int32.reduceToInt, g_bm, g_bm'] at *); omega) | (simp only [Int32.lt_iff_toInt_lt, Int32.le_iff_toInt_le, ← Int32.toInt_inj, Int32.toInt_add, Int32.toInt_sub, Int32.toInt_mul, Int32.toInt_neg, Int32.reduceToInt, g_bm, g_bm'] at *; simp at *; omega) | (simp_all; done)
set_option maxRecDepth 100000 in
theorem g_X12_latest_v27 (u : qS) (x : Int32) (y : Int32) (x3 : Int32) (x4 : Int32) (hI : IM u) (hy : y < u.1 1247) (h_k : 0 ≤ x4) (h_f : -1 ≤ x3) (h_g : x3 < u.1 1247) (hs_1 : 0 ≤ u.1 1247 ∧ u.1 1247 ≤ 120) (c11_2 : ¬ (u.1 1247) ≤ (x4 : Int32)) (b17_6 : 0 ≤ x4 ∧ x4 < u.1 1247) (hb_7 : 0 ≤ (u.2.1 1248 (x4 : Int32).toNatClampNeg) ∧ (u.2.1 1248 (x4 : Int32).toNatClampNeg) < u.1 1232) (hs_8 : 0 ≤ u.1 1232 ∧ u.1 1232 ≤ 20) (c31_9 : (u.2.1 1248 (x4 : Int32).toNatClampNeg : Int32) = x) (c35_10 : ¬ (y : Int32) < 0) (c61_18 : (x3 : Int32) < 0) : x4 < u.1 1247 := by
  first | omega | ((try simp only [Int32.lt_iff_toInt_lt, Int32.le_iff_toInt_le, ← Int32.toInt_inj, Int32.toInt_add, Int32.toInt_sub, Int32.toInt_mul, Int32.toInt_neg, Int32.reduceToInt, g_bm, g_bm'] at *); omega) | (simp only [Int32.lt_iff_toInt_lt, Int32.le_iff_toInt_le, ← Int32.toInt_inj, Int32.toInt_add, Int32.toInt_sub, Int32.toInt_mul, Int32.toInt_neg, Int32.reduceToInt, g_bm, g_bm'] at *; simp at *; omega) | (simp_all; done)
set_option maxRecDepth 100000 in
theorem g_X12_latest_v28 (u : qS) (x : Int32) (y : Int32) (x3 : Int32) (x4 : Int32) (hI : IM u) (hy : y < u.1 1247) (h_k : 0 ≤ x4) (h_f : -1 ≤ x3) (h_g : x3 < u.1 1247) (hs_1 : 0 ≤ u.1 1247 ∧ u.1 1247 ≤ 120) (c11_2 : ¬ (u.1 1247) ≤ (x4 : Int32)) (b17_6 : 0 ≤ x4 ∧ x4 < u.1 1247) (hb_7 : 0 ≤ (u.2.1 1248 (x4 : Int32).toNatClampNeg) ∧ (u.2.1 1248 (x4 : Int32).toNatClampNeg) < u.1 1232) (hs_8 : 0 ≤ u.1 1232 ∧ u.1 1232 ≤ 20) (c31_9 : (u.2.1 1248 (x4 : Int32).toNatClampNeg : Int32) = x) (c35_10 : ¬ (y : Int32) < 0) (c61_18 : (x3 : Int32) < 0) : ((u.1 1247).toInt - (x4 + 1).toInt).toNat < ((u.1 1247).toInt - x4.toInt).toNat := by
  first | omega | ((try simp only [Int32.lt_iff_toInt_lt, Int32.le_iff_toInt_le, ← Int32.toInt_inj, Int32.toInt_add, Int32.toInt_sub, Int32.toInt_mul, Int32.toInt_neg, Int32.reduceToInt, g_bm, g_bm'] at *); omega) | (simp only [Int32.lt_iff_toInt_lt, Int32.le_iff_toInt_le, ← Int32.toInt_inj, Int32.toInt_add, Int32.toInt_sub, Int32.toInt_mul, Int32.toInt_neg, Int32.reduceToInt, g_bm, g_bm'] at *; simp at *; omega) | (simp_all; done)
set_option maxRecDepth 100000 in
theorem g_X12_latest_v29 (u : qS) (x : Int32) (y : Int32) (x3 : Int32) (x4 : Int32) (hI : IM u) (hy : y < u.1 1247) (h_k : 0 ≤ x4) (h_f : -1 ≤ x3) (h_g : x3 < u.1 1247) (hs_1 : 0 ≤ u.1 1247 ∧ u.1 1247 ≤ 120) (c11_2 : ¬ (u.1 1247) ≤ (x4 : Int32)) (b17_6 : 0 ≤ x4 ∧ x4 < u.1 1247) (hb_7 : 0 ≤ (u.2.1 1248 (x4 : Int32).toNatClampNeg) ∧ (u.2.1 1248 (x4 : Int32).toNatClampNeg) < u.1 1232) (hs_8 : 0 ≤ u.1 1232 ∧ u.1 1232 ≤ 20) (c31_9 : (u.2.1 1248 (x4 : Int32).toNatClampNeg : Int32) = x) (c35_10 : ¬ (y : Int32) < 0) (c61_18 : ¬ (x3 : Int32) < 0) : 0 ≤ x3 ∧ x3 < (u.1 1247 : Int32) := by
  first | omega | ((try simp only [Int32.lt_iff_toInt_lt, Int32.le_iff_toInt_le, ← Int32.toInt_inj, Int32.toInt_add, Int32.toInt_sub, Int32.toInt_mul, Int32.toInt_neg, Int32.reduceToInt, g_bm, g_bm'] at *); omega) | (simp only [Int32.lt_iff_toInt_lt, Int32.le_iff_toInt_le, ← Int32.toInt_inj, Int32.toInt_add, Int32.toInt_sub, Int32.toInt_mul, Int32.toInt_neg, Int32.reduceToInt, g_bm, g_bm'] at *; simp at *; omega) | (simp_all; done)
set_option maxRecDepth 100000 in
theorem g_X12_latest_v30 (u : qS) (x : Int32) (y : Int32) (x3 : Int32) (x4 : Int32) (hI : IM u) (hy : y < u.1 1247) (h_k : 0 ≤ x4) (h_f : -1 ≤ x3) (h_g : x3 < u.1 1247) (hs_1 : 0 ≤ u.1 1247 ∧ u.1 1247 ≤ 120) (c11_2 : ¬ (u.1 1247) ≤ (x4 : Int32)) (b17_6 : 0 ≤ x4 ∧ x4 < u.1 1247) (hb_7 : 0 ≤ (u.2.1 1248 (x4 : Int32).toNatClampNeg) ∧ (u.2.1 1248 (x4 : Int32).toNatClampNeg) < u.1 1232) (hs_8 : 0 ≤ u.1 1232 ∧ u.1 1232 ≤ 20) (c31_9 : (u.2.1 1248 (x4 : Int32).toNatClampNeg : Int32) = x) (c35_10 : ¬ (y : Int32) < 0) (c61_18 : ¬ (x3 : Int32) < 0) : 0 ≤ x4 ∧ x4 < (u.1 1247 : Int32) := by
  first | omega | ((try simp only [Int32.lt_iff_toInt_lt, Int32.le_iff_toInt_le, ← Int32.toInt_inj, Int32.toInt_add, Int32.toInt_sub, Int32.toInt_mul, Int32.toInt_neg, Int32.reduceToInt, g_bm, g_bm'] at *); omega) | (simp only [Int32.lt_iff_toInt_lt, Int32.le_iff_toInt_le, ← Int32.toInt_inj, Int32.toInt_add, Int32.toInt_sub, Int32.toInt_mul, Int32.toInt_neg, Int32.reduceToInt, g_bm, g_bm'] at *; simp at *; omega) | (simp_all; done)
set_option maxRecDepth 100000 in
theorem g_X12_latest_v31 (u : qS) (x : Int32) (y : Int32) (x3 : Int32) (x4 : Int32) (hI : IM u) (hy : y < u.1 1247) (h_k : 0 ≤ x4) (h_f : -1 ≤ x3) (h_g : x3 < u.1 1247) (hs_1 : 0 ≤ u.1 1247 ∧ u.1 1247 ≤ 120) (c11_2 : ¬ (u.1 1247) ≤ (x4 : Int32)) (b17_6 : 0 ≤ x4 ∧ x4 < u.1 1247) (hb_7 : 0 ≤ (u.2.1 1248 (x4 : Int32).toNatClampNeg) ∧ (u.2.1 1248 (x4 : Int32).toNatClampNeg) < u.1 1232) (hs_8 : 0 ≤ u.1 1232 ∧ u.1 1232 ≤ 20) (c31_9 : (u.2.1 1248 (x4 : Int32).toNatClampNeg : Int32) = x) (c35_10 : ¬ (y : Int32) < 0) (c61_18 : ¬ (x3 : Int32) < 0) : (u.1 1247 : Int32) ≤ 120 := by
  first | omega | ((try simp only [Int32.lt_iff_toInt_lt, Int32.le_iff_toInt_le, ← Int32.toInt_inj, Int32.toInt_add, Int32.toInt_sub, Int32.toInt_mul, Int32.toInt_neg, Int32.reduceToInt, g_bm, g_bm'] at *); omega) | (simp only [Int32.lt_iff_toInt_lt, Int32.le_iff_toInt_le, ← Int32.toInt_inj, Int32.toInt_add, Int32.toInt_sub, Int32.toInt_mul, Int32.toInt_neg, Int32.reduceToInt, g_bm, g_bm'] at *; simp at *; omega) | (simp_all; done)
set_option maxRecDepth 100000 in
theorem g_X12_latest_v32 (u : qS) (x : Int32) (y : Int32) (x3 : Int32) (x4 : Int32) (hI : IM u) (hy : y < u.1 1247) (h_k : 0 ≤ x4) (h_f : -1 ≤ x3) (h_g : x3 < u.1 1247) (hs_1 : 0 ≤ u.1 1247 ∧ u.1 1247 ≤ 120) (c11_2 : ¬ (u.1 1247) ≤ (x4 : Int32)) (b17_6 : 0 ≤ x4 ∧ x4 < u.1 1247) (hb_7 : 0 ≤ (u.2.1 1248 (x4 : Int32).toNatClampNeg) ∧ (u.2.1 1248 (x4 : Int32).toNatClampNeg) < u.1 1232) (hs_8 : 0 ≤ u.1 1232 ∧ u.1 1232 ≤ 20) (c31_9 : (u.2.1 1248 (x4 : Int32).toNatClampNeg : Int32) = x) (c35_10 : ¬ (y : Int32) < 0) (c61_18 : ¬ (x3 : Int32) < 0) : 0 ≤ (x4 + 1) := by
  first | omega | ((try simp only [Int32.lt_iff_toInt_lt, Int32.le_iff_toInt_le, ← Int32.toInt_inj, Int32.toInt_add, Int32.toInt_sub, Int32.toInt_mul, Int32.toInt_neg, Int32.reduceToInt, g_bm, g_bm'] at *); omega) | (simp only [Int32.lt_iff_toInt_lt, Int32.le_iff_toInt_le, ← Int32.toInt_inj, Int32.toInt_add, Int32.toInt_sub, Int32.toInt_mul, Int32.toInt_neg, Int32.reduceToInt, g_bm, g_bm'] at *; simp at *; omega) | (simp_all; done)
set_option maxRecDepth 100000 in
theorem g_X12_latest_v33 (u : qS) (x : Int32) (y : Int32) (x3 : Int32) (x4 : Int32) (hI : IM u) (hy : y < u.1 1247) (h_k : 0 ≤ x4) (h_f : -1 ≤ x3) (h_g : x3 < u.1 1247) (hs_1 : 0 ≤ u.1 1247 ∧ u.1 1247 ≤ 120) (c11_2 : ¬ (u.1 1247) ≤ (x4 : Int32)) (b17_6 : 0 ≤ x4 ∧ x4 < u.1 1247) (hb_7 : 0 ≤ (u.2.1 1248 (x4 : Int32).toNatClampNeg) ∧ (u.2.1 1248 (x4 : Int32).toNatClampNeg) < u.1 1232) (hs_8 : 0 ≤ u.1 1232 ∧ u.1 1232 ≤ 20) (c31_9 : (u.2.1 1248 (x4 : Int32).toNatClampNeg : Int32) = x) (c35_10 : ¬ (y : Int32) < 0) (c61_18 : ¬ (x3 : Int32) < 0) : -1 ≤ x4 := by
  first | omega | ((try simp only [Int32.lt_iff_toInt_lt, Int32.le_iff_toInt_le, ← Int32.toInt_inj, Int32.toInt_add, Int32.toInt_sub, Int32.toInt_mul, Int32.toInt_neg, Int32.reduceToInt, g_bm, g_bm'] at *); omega) | (simp only [Int32.lt_iff_toInt_lt, Int32.le_iff_toInt_le, ← Int32.toInt_inj, Int32.toInt_add, Int32.toInt_sub, Int32.toInt_mul, Int32.toInt_neg, Int32.reduceToInt, g_bm, g_bm'] at *; simp at *; omega) | (simp_all; done)
set_option maxRecDepth 100000 in
theorem g_X12_latest_v34 (u : qS) (x : Int32) (y : Int32) (x3 : Int32) (x4 : Int32) (hI : IM u) (hy : y < u.1 1247) (h_k : 0 ≤ x4) (h_f : -1 ≤ x3) (h_g : x3 < u.1 1247) (hs_1 : 0 ≤ u.1 1247 ∧ u.1 1247 ≤ 120) (c11_2 : ¬ (u.1 1247) ≤ (x4 : Int32)) (b17_6 : 0 ≤ x4 ∧ x4 < u.1 1247) (hb_7 : 0 ≤ (u.2.1 1248 (x4 : Int32).toNatClampNeg) ∧ (u.2.1 1248 (x4 : Int32).toNatClampNeg) < u.1 1232) (hs_8 : 0 ≤ u.1 1232 ∧ u.1 1232 ≤ 20) (c31_9 : (u.2.1 1248 (x4 : Int32).toNatClampNeg : Int32) = x) (c35_10 : ¬ (y : Int32) < 0) (c61_18 : ¬ (x3 : Int32) < 0) : x4 < u.1 1247 := by
  first | omega | ((try simp only [Int32.lt_iff_toInt_lt, Int32.le_iff_toInt_le, ← Int32.toInt_inj, Int32.toInt_add, Int32.toInt_sub, Int32.toInt_mul, Int32.toInt_neg, Int32.reduceToInt, g_bm, g_bm'] at *); omega) | (simp only [Int32.lt_iff_toInt_lt, Int32.le_iff_toInt_le, ← Int32.toInt_inj, Int32.toInt_add, Int32.toInt_sub, Int32.toInt_mul, Int32.toInt_neg, Int32.reduceToInt, g_bm, g_bm'] at *; simp at *; omega) | (simp_all; done)
set_option maxRecDepth 100000 in
theorem g_X12_latest_v35 (u : qS) (x : Int32) (y : Int32) (x3 : Int32) (x4 : Int32) (hI : IM u) (hy : y < u.1 1247) (h_k : 0 ≤ x4) (h_f : -1 ≤ x3) (h_g : x3 < u.1 1247) (hs_1 : 0 ≤ u.1 1247 ∧ u.1 1247 ≤ 120) (c11_2 : ¬ (u.1 1247) ≤ (x4 : Int32)) (b17_6 : 0 ≤ x4 ∧ x4 < u.1 1247) (hb_7 : 0 ≤ (u.2.1 1248 (x4 : Int32).toNatClampNeg) ∧ (u.2.1 1248 (x4 : Int32).toNatClampNeg) < u.1 1232) (hs_8 : 0 ≤ u.1 1232 ∧ u.1 1232 ≤ 20) (c31_9 : (u.2.1 1248 (x4 : Int32).toNatClampNeg : Int32) = x) (c35_10 : ¬ (y : Int32) < 0) (c61_18 : ¬ (x3 : Int32) < 0) : ((u.1 1247).toInt - (x4 + 1).toInt).toNat < ((u.1 1247).toInt - x4.toInt).toNat := by
  first | omega | ((try simp only [Int32.lt_iff_toInt_lt, Int32.le_iff_toInt_le, ← Int32.toInt_inj, Int32.toInt_add, Int32.toInt_sub, Int32.toInt_mul, Int32.toInt_neg, Int32.reduceToInt, g_bm, g_bm'] at *); omega) | (simp only [Int32.lt_iff_toInt_lt, Int32.le_iff_toInt_le, ← Int32.toInt_inj, Int32.toInt_add, Int32.toInt_sub, Int32.toInt_mul, Int32.toInt_neg, Int32.reduceToInt, g_bm, g_bm'] at *; simp at *; omega) | (simp_all; done)
set_option maxRecDepth 100000 in
theorem g_X12_latest_v36 (u : qS) (x : Int32) (y : Int32) (x3 : Int32) (x4 : Int32) (hI : IM u) (hy : y < u.1 1247) (h_k : 0 ≤ x4) (h_f : -1 ≤ x3) (h_g : x3 < u.1 1247) (hs_1 : 0 ≤ u.1 1247 ∧ u.1 1247 ≤ 120) (c11_2 : ¬ (u.1 1247) ≤ (x4 : Int32)) (b17_6 : 0 ≤ x4 ∧ x4 < u.1 1247) (hb_7 : 0 ≤ (u.2.1 1248 (x4 : Int32).toNatClampNeg) ∧ (u.2.1 1248 (x4 : Int32).toNatClampNeg) < u.1 1232) (hs_8 : 0 ≤ u.1 1232 ∧ u.1 1232 ≤ 20) (c31_9 : (u.2.1 1248 (x4 : Int32).toNatClampNeg : Int32) = x) (c35_10 : ¬ (y : Int32) < 0) (c61_18 : ¬ (x3 : Int32) < 0) : 0 ≤ (x4 + 1) := by
  first | omega | ((try simp only [Int32.lt_iff_toInt_lt, Int32.le_iff_toInt_le, ← Int32.toInt_inj, Int32.toInt_add, Int32.toInt_sub, Int32.toInt_mul, Int32.toInt_neg, Int32.reduceToInt, g_bm, g_bm'] at *); omega) | (simp only [Int32.lt_iff_toInt_lt, Int32.le_iff_toInt_le, ← Int32.toInt_inj, Int32.toInt_add, Int32.toInt_sub, Int32.toInt_mul, Int32.toInt_neg, Int32.reduceToInt, g_bm, g_bm'] at *; simp at *; omega) | (simp_all; done)
set_option maxRecDepth 100000 in
theorem g_X12_latest_v37 (u : qS) (x : Int32) (y : Int32) (x3 : Int32) (x4 : Int32) (hI : IM u) (hy : y < u.1 1247) (h_k : 0 ≤ x4) (h_f : -1 ≤ x3) (h_g : x3 < u.1 1247) (hs_1 : 0 ≤ u.1 1247 ∧ u.1 1247 ≤ 120) (c11_2 : ¬ (u.1 1247) ≤ (x4 : Int32)) (b17_6 : 0 ≤ x4 ∧ x4 < u.1 1247) (hb_7 : 0 ≤ (u.2.1 1248 (x4 : Int32).toNatClampNeg) ∧ (u.2.1 1248 (x4 : Int32).toNatClampNeg) < u.1 1232) (hs_8 : 0 ≤ u.1 1232 ∧ u.1 1232 ≤ 20) (c31_9 : (u.2.1 1248 (x4 : Int32).toNatClampNeg : Int32) = x) (c35_10 : ¬ (y : Int32) < 0) (c61_18 : ¬ (x3 : Int32) < 0) : -1 ≤ x3 := by
  first | omega | ((try simp only [Int32.lt_iff_toInt_lt, Int32.le_iff_toInt_le, ← Int32.toInt_inj, Int32.toInt_add, Int32.toInt_sub, Int32.toInt_mul, Int32.toInt_neg, Int32.reduceToInt, g_bm, g_bm'] at *); omega) | (simp only [Int32.lt_iff_toInt_lt, Int32.le_iff_toInt_le, ← Int32.toInt_inj, Int32.toInt_add, Int32.toInt_sub, Int32.toInt_mul, Int32.toInt_neg, Int32.reduceToInt, g_bm, g_bm'] at *; simp at *; omega) | (simp_all; done)
set_option maxRecDepth 100000 in
theorem g_X12_latest_v38 (u : qS) (x : Int32) (y : Int32) (x3 : Int32) (x4 : Int32) (hI : IM u) (hy : y < u.1 1247) (h_k : 0 ≤ x4) (h_f : -1 ≤ x3) (h_g : x3 < u.1 1247) (hs_1 : 0 ≤ u.1 1247 ∧ u.1 1247 ≤ 120) (c11_2 : ¬ (u.1 1247) ≤ (x4 : Int32)) (b17_6 : 0 ≤ x4 ∧ x4 < u.1 1247) (hb_7 : 0 ≤ (u.2.1 1248 (x4 : Int32).toNatClampNeg) ∧ (u.2.1 1248 (x4 : Int32).toNatClampNeg) < u.1 1232) (hs_8 : 0 ≤ u.1 1232 ∧ u.1 1232 ≤ 20) (c31_9 : (u.2.1 1248 (x4 : Int32).toNatClampNeg : Int32) = x) (c35_10 : ¬ (y : Int32) < 0) (c61_18 : ¬ (x3 : Int32) < 0) : x3 < u.1 1247 := by
  first | omega | ((try simp only [Int32.lt_iff_toInt_lt, Int32.le_iff_toInt_le, ← Int32.toInt_inj, Int32.toInt_add, Int32.toInt_sub, Int32.toInt_mul, Int32.toInt_neg, Int32.reduceToInt, g_bm, g_bm'] at *); omega) | (simp only [Int32.lt_iff_toInt_lt, Int32.le_iff_toInt_le, ← Int32.toInt_inj, Int32.toInt_add, Int32.toInt_sub, Int32.toInt_mul, Int32.toInt_neg, Int32.reduceToInt, g_bm, g_bm'] at *; simp at *; omega) | (simp_all; done)
set_option maxRecDepth 100000 in
theorem g_X12_latest_v39 (u : qS) (x : Int32) (y : Int32) (x3 : Int32) (x4 : Int32) (hI : IM u) (hy : y < u.1 1247) (h_k : 0 ≤ x4) (h_f : -1 ≤ x3) (h_g : x3 < u.1 1247) (hs_1 : 0 ≤ u.1 1247 ∧ u.1 1247 ≤ 120) (c11_2 : ¬ (u.1 1247) ≤ (x4 : Int32)) (b17_6 : 0 ≤ x4 ∧ x4 < u.1 1247) (hb_7 : 0 ≤ (u.2.1 1248 (x4 : Int32).toNatClampNeg) ∧ (u.2.1 1248 (x4 : Int32).toNatClampNeg) < u.1 1232) (hs_8 : 0 ≤ u.1 1232 ∧ u.1 1232 ≤ 20) (c31_9 : (u.2.1 1248 (x4 : Int32).toNatClampNeg : Int32) = x) (c35_10 : ¬ (y : Int32) < 0) (c61_18 : ¬ (x3 : Int32) < 0) : ((u.1 1247).toInt - (x4 + 1).toInt).toNat < ((u.1 1247).toInt - x4.toInt).toNat := by
  first | omega | ((try simp only [Int32.lt_iff_toInt_lt, Int32.le_iff_toInt_le, ← Int32.toInt_inj, Int32.toInt_add, Int32.toInt_sub, Int32.toInt_mul, Int32.toInt_neg, Int32.reduceToInt, g_bm, g_bm'] at *); omega) | (simp only [Int32.lt_iff_toInt_lt, Int32.le_iff_toInt_le, ← Int32.toInt_inj, Int32.toInt_add, Int32.toInt_sub, Int32.toInt_mul, Int32.toInt_neg, Int32.reduceToInt, g_bm, g_bm'] at *; simp at *; omega) | (simp_all; done)
set_option maxRecDepth 100000 in
theorem g_X12_latest_v40 (u : qS) (x : Int32) (y : Int32) (x3 : Int32) (x4 : Int32) (hI : IM u) (hy : y < u.1 1247) (h_k : 0 ≤ x4) (h_f : -1 ≤ x3) (h_g : x3 < u.1 1247) (hs_1 : 0 ≤ u.1 1247 ∧ u.1 1247 ≤ 120) (c11_2 : ¬ (u.1 1247) ≤ (x4 : Int32)) (b17_6 : 0 ≤ x4 ∧ x4 < u.1 1247) (hb_7 : 0 ≤ (u.2.1 1248 (x4 : Int32).toNatClampNeg) ∧ (u.2.1 1248 (x4 : Int32).toNatClampNeg) < u.1 1232) (hs_8 : 0 ≤ u.1 1232 ∧ u.1 1232 ≤ 20) (c31_9 : (u.2.1 1248 (x4 : Int32).toNatClampNeg : Int32) = x) (c35_10 : ¬ (y : Int32) < 0) : 0 ≤ (x4 + 1) := by
  first | omega | ((try simp only [Int32.lt_iff_toInt_lt, Int32.le_iff_toInt_le, ← Int32.toInt_inj, Int32.toInt_add, Int32.toInt_sub, Int32.toInt_mul, Int32.toInt_neg, Int32.reduceToInt, g_bm, g_bm'] at *); omega) | (simp only [Int32.lt_iff_toInt_lt, Int32.le_iff_toInt_le, ← Int32.toInt_inj, Int32.toInt_add, Int32.toInt_sub, Int32.toInt_mul, Int32.toInt_neg, Int32.reduceToInt, g_bm, g_bm'] at *; simp at *; omega) | (simp_all; done)
set_option maxRecDepth 100000 in
theorem g_X12_latest_v41 (u : qS) (x : Int32) (y : Int32) (x3 : Int32) (x4 : Int32) (hI : IM u) (hy : y < u.1 1247) (h_k : 0 ≤ x4) (h_f : -1 ≤ x3) (h_g : x3 < u.1 1247) (hs_1 : 0 ≤ u.1 1247 ∧ u.1 1247 ≤ 120) (c11_2 : ¬ (u.1 1247) ≤ (x4 : Int32)) (b17_6 : 0 ≤ x4 ∧ x4 < u.1 1247) (hb_7 : 0 ≤ (u.2.1 1248 (x4 : Int32).toNatClampNeg) ∧ (u.2.1 1248 (x4 : Int32).toNatClampNeg) < u.1 1232) (hs_8 : 0 ≤ u.1 1232 ∧ u.1 1232 ≤ 20) (c31_9 : (u.2.1 1248 (x4 : Int32).toNatClampNeg : Int32) = x) (c35_10 : ¬ (y : Int32) < 0) : -1 ≤ x3 := by
  first | omega | ((try simp only [Int32.lt_iff_toInt_lt, Int32.le_iff_toInt_le, ← Int32.toInt_inj, Int32.toInt_add, Int32.toInt_sub, Int32.toInt_mul, Int32.toInt_neg, Int32.reduceToInt, g_bm, g_bm'] at *); omega) | (simp only [Int32.lt_iff_toInt_lt, Int32.le_iff_toInt_le, ← Int32.toInt_inj, Int32.toInt_add, Int32.toInt_sub, Int32.toInt_mul, Int32.toInt_neg, Int32.reduceToInt, g_bm, g_bm'] at *; simp at *; omega) | (simp_all; done)
set_option maxRecDepth 100000 in
theorem g_X12_latest_v42 (u : qS) (x : Int32) (y : Int32) (x3 : Int32) (x4 : Int32) (hI : IM u) (hy : y < u.1 1247) (h_k : 0 ≤ x4) (h_f : -1 ≤ x3) (h_g : x3 < u.1 1247) (hs_1 : 0 ≤ u.1 1247 ∧ u.1 1247 ≤ 120) (c11_2 : ¬ (u.1 1247) ≤ (x4 : Int32)) (b17_6 : 0 ≤ x4 ∧ x4 < u.1 1247) (hb_7 : 0 ≤ (u.2.1 1248 (x4 : Int32).toNatClampNeg) ∧ (u.2.1 1248 (x4 : Int32).toNatClampNeg) < u.1 1232) (hs_8 : 0 ≤ u.1 1232 ∧ u.1 1232 ≤ 20) (c31_9 : (u.2.1 1248 (x4 : Int32).toNatClampNeg : Int32) = x) (c35_10 : ¬ (y : Int32) < 0) : x3 < u.1 1247 := by
  first | omega | ((try simp only [Int32.lt_iff_toInt_lt, Int32.le_iff_toInt_le, ← Int32.toInt_inj, Int32.toInt_add, Int32.toInt_sub, Int32.toInt_mul, Int32.toInt_neg, Int32.reduceToInt, g_bm, g_bm'] at *); omega) | (simp only [Int32.lt_iff_toInt_lt, Int32.le_iff_toInt_le, ← Int32.toInt_inj, Int32.toInt_add, Int32.toInt_sub, Int32.toInt_mul, Int32.toInt_neg, Int32.reduceToInt, g_bm, g_bm'] at *; simp at *; omega) | (simp_all; done)
set_option maxRecDepth 100000 in
theorem g_X12_latest_v43 (u : qS) (x : Int32) (y : Int32) (x3 : Int32) (x4 : Int32) (hI : IM u) (hy : y < u.1 1247) (h_k : 0 ≤ x4) (h_f : -1 ≤ x3) (h_g : x3 < u.1 1247) (hs_1 : 0 ≤ u.1 1247 ∧ u.1 1247 ≤ 120) (c11_2 : ¬ (u.1 1247) ≤ (x4 : Int32)) (b17_6 : 0 ≤ x4 ∧ x4 < u.1 1247) (hb_7 : 0 ≤ (u.2.1 1248 (x4 : Int32).toNatClampNeg) ∧ (u.2.1 1248 (x4 : Int32).toNatClampNeg) < u.1 1232) (hs_8 : 0 ≤ u.1 1232 ∧ u.1 1232 ≤ 20) (c31_9 : (u.2.1 1248 (x4 : Int32).toNatClampNeg : Int32) = x) (c35_10 : ¬ (y : Int32) < 0) : ((u.1 1247).toInt - (x4 + 1).toInt).toNat < ((u.1 1247).toInt - x4.toInt).toNat := by
  first | omega | ((try simp only [Int32.lt_iff_toInt_lt, Int32.le_iff_toInt_le, ← Int32.toInt_inj, Int32.toInt_add, Int32.toInt_sub, Int32.toInt_mul, Int32.toInt_neg, Int32.reduceToInt, g_bm, g_bm'] at *); omega) | (simp only [Int32.lt_iff_toInt_lt, Int32.le_iff_toInt_le, ← Int32.toInt_inj, Int32.toInt_add, Int32.toInt_sub, Int32.toInt_mul, Int32.toInt_neg, Int32.reduceToInt, g_bm, g_bm'] at *; simp at *; omega) | (simp_all; done)
set_option maxRecDepth 100000 in
theorem g_X12_latest_v44 (u : qS) (y : Int32) (x3 : Int32) (x4 : Int32) (hI : IM u) (hy : y < u.1 1247) (h_k : 0 ≤ x4) (h_f : -1 ≤ x3) (h_g : x3 < u.1 1247) (hs_1 : 0 ≤ u.1 1247 ∧ u.1 1247 ≤ 120) (c11_2 : ¬ (u.1 1247) ≤ (x4 : Int32)) : 0 ≤ (x4 + 1) := by
  first | omega | ((try simp only [Int32.lt_iff_toInt_lt, Int32.le_iff_toInt_le, ← Int32.toInt_inj, Int32.toInt_add, Int32.toInt_sub, Int32.toInt_mul, Int32.toInt_neg, Int32.reduceToInt, g_bm, g_bm'] at *); omega) | (simp only [Int32.lt_iff_toInt_lt, Int32.le_iff_toInt_le, ← Int32.toInt_inj, Int32.toInt_add, Int32.toInt_sub, Int32.toInt_mul, Int32.toInt_neg, Int32.reduceToInt, g_bm, g_bm'] at *; simp at *; omega) | (simp_all; done)
set_option maxRecDepth 100000 in
theorem g_X12_latest_v45 (u : qS) (y : Int32) (x3 : Int32) (x4 : Int32) (hI : IM u) (hy : y < u.1 1247) (h_k : 0 ≤ x4) (h_f : -1 ≤ x3) (h_g : x3 < u.1 1247) (hs_1 : 0 ≤ u.1 1247 ∧ u.1 1247 ≤ 120) (c11_2 : ¬ (u.1 1247) ≤ (x4 : Int32)) : -1 ≤ x3 := by
  first | omega | ((try simp only [Int32.lt_iff_toInt_lt, Int32.le_iff_toInt_le, ← Int32.toInt_inj, Int32.toInt_add, Int32.toInt_sub, Int32.toInt_mul, Int32.toInt_neg, Int32.reduceToInt, g_bm, g_bm'] at *); omega) | (simp only [Int32.lt_iff_toInt_lt, Int32.le_iff_toInt_le, ← Int32.toInt_inj, Int32.toInt_add, Int32.toInt_sub, Int32.toInt_mul, Int32.toInt_neg, Int32.reduceToInt, g_bm, g_bm'] at *; simp at *; omega) | (simp_all; done)
set_option maxRecDepth 100000 in
theorem g_X12_latest_v46 (u : qS) (y : Int32) (x3 : Int32) (x4 : Int32) (hI : IM u) (hy : y < u.1 1247) (h_k : 0 ≤ x4) (h_f : -1 ≤ x3) (h_g : x3 < u.1 1247) (hs_1 : 0 ≤ u.1 1247 ∧ u.1 1247 ≤ 120) (c11_2 : ¬ (u.1 1247) ≤ (x4 : Int32)) : x3 < u.1 1247 := by
  first | omega | ((try simp only [Int32.lt_iff_toInt_lt, Int32.le_iff_toInt_le, ← Int32.toInt_inj, Int32.toInt_add, Int32.toInt_sub, Int32.toInt_mul, Int32.toInt_neg, Int32.reduceToInt, g_bm, g_bm'] at *); omega) | (simp only [Int32.lt_iff_toInt_lt, Int32.le_iff_toInt_le, ← Int32.toInt_inj, Int32.toInt_add, Int32.toInt_sub, Int32.toInt_mul, Int32.toInt_neg, Int32.reduceToInt, g_bm, g_bm'] at *; simp at *; omega) | (simp_all; done)
set_option maxRecDepth 100000 in
theorem g_X12_latest_v47 (u : qS) (y : Int32) (x3 : Int32) (x4 : Int32) (hI : IM u) (hy : y < u.1 1247) (h_k : 0 ≤ x4) (h_f : -1 ≤ x3) (h_g : x3 < u.1 1247) (hs_1 : 0 ≤ u.1 1247 ∧ u.1 1247 ≤ 120) (c11_2 : ¬ (u.1 1247) ≤ (x4 : Int32)) : ((u.1 1247).toInt - (x4 + 1).toInt).toNat < ((u.1 1247).toInt - x4.toInt).toNat := by
  first | omega | ((try simp only [Int32.lt_iff_toInt_lt, Int32.le_iff_toInt_le, ← Int32.toInt_inj, Int32.toInt_add, Int32.toInt_sub, Int32.toInt_mul, Int32.toInt_neg, Int32.reduceToInt, g_bm, g_bm'] at *); omega) | (simp only [Int32.lt_iff_toInt_lt, Int32.le_iff_toInt_le, ← Int32.toInt_inj, Int32.toInt_add, Int32.toInt_sub, Int32.toInt_mul, Int32.toInt_neg, Int32.reduceToInt, g_bm, g_bm'] at *; simp at *; omega) | (simp_all; done)
set_option maxRecDepth 100000 in
theorem g_X12_latest_v48 (u : qS) (y : Int32) (hI : IM u) (hy : y < u.1 1247) : 0 ≤ (0 : Int32) := by
  have hz1247 := hI.1.s1247
  first | omega | ((try simp only [Int32.lt_iff_toInt_lt, Int32.le_iff_toInt_le, ← Int32.toInt_inj, Int32.toInt_add, Int32.toInt_sub, Int32.toInt_mul, Int32.toInt_neg, Int32.reduceToInt, g_bm, g_bm'] at *); omega) | (simp only [Int32.lt_iff_toInt_lt, Int32.le_iff_toInt_le, ← Int32.toInt_inj, Int32.toInt_add, Int32.toInt_sub, Int32.toInt_mul, Int32.toInt_neg, Int32.reduceToInt, g_bm, g_bm'] at *; simp at *; omega) | (simp_all; done)
set_option maxRecDepth 100000 in
theorem g_X12_latest_v49 (u : qS) (y : Int32) (hI : IM u) (hy : y < u.1 1247) : -1 ≤ ((-1) : Int32) := by
  have hz1247 := hI.1.s1247
  first | omega | ((try simp only [Int32.lt_iff_toInt_lt, Int32.le_iff_toInt_le, ← Int32.toInt_inj, Int32.toInt_add, Int32.toInt_sub, Int32.toInt_mul, Int32.toInt_neg, Int32.reduceToInt, g_bm, g_bm'] at *); omega) | (simp only [Int32.lt_iff_toInt_lt, Int32.le_iff_toInt_le, ← Int32.toInt_inj, Int32.toInt_add, Int32.toInt_sub, Int32.toInt_mul, Int32.toInt_neg, Int32.reduceToInt, g_bm, g_bm'] at *; simp at *; omega) | (simp_all; done)
set_option maxRecDepth 100000 in
theorem g_X12_latest_v50 (u : qS) (y : Int32) (hI : IM u) (hy : y < u.1 1247) : ((-1) : Int32) < u.1 1247 := by
  have hz1247 := hI.1.s1247
  first | omega | ((try simp only [Int32.lt_iff_toInt_lt, Int32.le_iff_toInt_le, ← Int32.toInt_inj, Int32.toInt_add, Int32.toInt_sub, Int32.toInt_mul, Int32.toInt_neg, Int32.reduceToInt, g_bm, g_bm'] at *); omega) | (simp only [Int32.lt_iff_toInt_lt, Int32.le_iff_toInt_le, ← Int32.toInt_inj, Int32.toInt_add, Int32.toInt_sub, Int32.toInt_mul, Int32.toInt_neg, Int32.reduceToInt, g_bm, g_bm'] at *; simp at *; omega) | (simp_all; done)
set_option maxHeartbeats 1000000 in
set_option maxRecDepth 100000 in
theorem g_X12_latest (l : Launch) (E : qE) (A : Nat → Prop) (u : qS) (x : Int32) (y : Int32) (hI : IM u) (hy : y < u.1 1247) : Met l yX12_latest (uws yX12_latest cX12_latest 6 (some .int)) (qR 2 0 0) (qPc E A 1 u [.ref (E.2.2 1299), .int x, .int y]) (qQi E A 1 (fun r u1 => u1 = u ∧ (-1 ≤ r ∧ r < u.1 1247))) 0 0 A := by
  refine q_met (own := RX12) (f := 2) [.ref (E.2.2 1299), .int x, .int y] (by decide) (Nat.le_of_ble_eq_true rfl) rfl ?_
  intro p0 e0 s0 m0 bl0 me0 cd0 ls hF hr hlocks hU hS hA hl
  have hl : lv_has ls 6 [(0, .ref (E.2.2 1299)), (1, .int x), (2, .int y)] := hl
  have main : ∀ n : Nat, (∀ (x3 : Int32) (x4 : Int32) (uc : qS) (H : Heap) (locs : List Loc) (ls : Array Slot) (huc : u = uc) (h_k : 0 ≤ x4) (h_f : -1 ≤ x3) (h_g : x3 < u.1 1247), ((u.1 1247).toInt - x4.toInt).toNat < n → qH E A 1 uc s0 H → va_S A s0.heap H locs → lv_has ls 6 [(0, .ref (E.2.2 1299)), (1, .int x), (2, .int y), (3, .int x3), (4, .int x4)] → W p0 l e0 (qR 2 0 0) s0 m0 ([.ref (E.2.2 1299), .int x, .int y] : List Value).toArray bl0 me0 cd0 H locs 0 0 (MQ bl0 (qQi E A 1 (fun r u1 => u1 = u ∧ (-1 ≤ r ∧ r < u.1 1247))) ([.ref (E.2.2 1299), .int x, .int y] : List Value).toArray s0 0 0 A) (F0 m0 5 ls [])) := by
    intro n
    induction n with
    | zero => exact fun _ _ _ _ _ _ _ _ _ _ hmu => absurd hmu (Nat.not_lt_zero _)
    | succ n ih =>
      intro x3 x4 uc H locs ls huc h_k h_f h_g hmu hU hS hl
      subst huc
      refine lv_iload hF.1 hF.2.1 dX12_latest_5 (lv_at hl 4 rfl) ?_
      refine lv_aload_n hF.1 hF.2.1 dX12_latest_7 rfl (lv_at hl 0 rfl) ?_
      refine q_get (v := .int (u.1 1247)) hF hU dX12_latest_8 0 12 47 1247 1299 rfl rfl rfl rfl inX12 (by decide) (by decide) w_1379 rfl rfl ?_
      have hs_1 : 0 ≤ u.1 1247 ∧ u.1 1247 ≤ 120 := hI.1.s1247
      refine lv_icmp_ge (tgt := 87) hF.1 hF.2.1 dX12_latest_11 (by decide) (fun c11_2 => ?_) (fun c11_2 => ?_)
      · refine lv_iload_n hF.1 hF.2.1 dX12_latest_87 rfl (lv_at hl 3 rfl) ?_
        exact q_iret hF hr rfl hlocks hU hS dX12_latest_88 ⟨rfl, (g_X12_latest_v0 u y x3 x4 hI hy h_k h_f h_g hs_1 c11_2)⟩
      · refine lv_aload_n hF.1 hF.2.1 dX12_latest_14 rfl (lv_at hl 0 rfl) ?_
        refine lv_iload hF.1 hF.2.1 dX12_latest_15 (lv_at hl 4 rfl) ?_
        have hM9 := g_X12_isSeen l E A u x4 hI
        have hR9 := q_runV (l := l) (e := e0) (below := bl0) (meth := me0) (R := qR 2 0 0) (cells := 0) (slots := 0) (st0 := [.int x4, .ref (E.2.2 1299)]) (rest := []) hF hU hS hA 1 0 12 1299 rfl rfl rfl hM9 w_1733 w_1735 w_71 w_107 w_1736 (by decide +kernel) ⟨Nat.le_of_ble_eq_true rfl, Nat.le_of_ble_eq_true rfl⟩ dX12_latest_17 rfl hl.1 rfl (Nat.le_of_ble_eq_true rfl) ⟨Nat.le_of_ble_eq_true rfl, Nat.le_of_ble_eq_true rfl⟩
        refine q_calli hR9 hU.2.2.2 hS (fun r_5 u_3 H locs hw_4 hU hS => ?_)
        obtain ⟨hw_4_e, hw_4⟩ := hw_4
        rw [hw_4_e] at hU
        have hw_4 : (r_5 = 1 ∧ (0 ≤ x4 ∧ x4 < u.1 1247)) ∨ r_5 = 0 := hw_4
        rcases hw_4 with ⟨rfl, b17_6⟩ | rfl
        · refine lv_if_eq (tgt := 52) hF.1 hF.2.1 dX12_latest_20 (by decide) (fun h9 => absurd h9 (by decide)) (fun _ => ?_)
          refine lv_aload_n hF.1 hF.2.1 dX12_latest_23 rfl (lv_at hl 0 rfl) ?_
          refine q_get (v := .ref (E.2.2 1248)) hF hU dX12_latest_24 0 12 48 1248 1299 rfl rfl rfl rfl inX12 (by decide) (by decide) w_1380 rfl rfl ?_
          refine lv_iload hF.1 hF.2.1 dX12_latest_27 (lv_at hl 4 rfl) ?_
          refine q_iald (v := u.2.1 1248 (x4 : Int32).toNatClampNeg) hF hU dX12_latest_29 27 1248 rfl rfl (g_X12_latest_v1 u y x3 x4 hI hy h_k h_f h_g hs_1 c11_2 b17_6) rfl ?_
          have hb_7 : 0 ≤ (u.2.1 1248 (x4 : Int32).toNatClampNeg) ∧ (u.2.1 1248 (x4 : Int32).toNatClampNeg) < u.1 1232 := hI.2.1.r1248 x4 (g_X12_latest_v2 u y x3 x4 hI hy h_k h_f h_g hs_1 c11_2 b17_6)
          have hs_8 : 0 ≤ u.1 1232 ∧ u.1 1232 ≤ 20 := hI.1.s1232
          refine lv_iload_n hF.1 hF.2.1 dX12_latest_30 rfl (lv_at hl 1 rfl) ?_
          refine lv_icmp_ne (tgt := 52) hF.1 hF.2.1 dX12_latest_31 (by decide) (fun c31_9 => ?_) (fun c31_9 => ?_)
          · refine lv_iconst (v := 0) hF.1 hF.2.1 dX12_latest_52 (by decide) ?_
            refine lv_istore (lv' := [(5, .int 0), (0, .ref (E.2.2 1299)), (1, .int x), (2, .int y), (3, .int x3), (4, .int x4)]) hF.1 hF.2.1 dX12_latest_53 hl (by decide) rfl (fun ls hl => ?_)
            refine lv_iload hF.1 hF.2.1 dX12_latest_55 (lv_at hl 0 rfl) ?_
            refine lv_if_eq (tgt := 79) hF.1 hF.2.1 dX12_latest_57 (by decide) (fun _ => ?_) (fun h9 => absurd (by decide) h9)
            refine lv_iload_n hF.1 hF.2.1 dX12_latest_79 rfl (lv_at hl 4 rfl) ?_
            refine lv_istore_n (lv' := [(3, .int x3), (5, .int 0), (0, .ref (E.2.2 1299)), (1, .int x), (2, .int y), (4, .int x4)]) hF.1 hF.2.1 dX12_latest_80 rfl hl (by decide) rfl (fun ls hl => ?_)
            refine lv_iinc (v := x4 + 1) (lv' := [(4, .int (x4 + 1)), (3, .int x3), (5, .int 0), (0, .ref (E.2.2 1299)), (1, .int x), (2, .int y)]) hF.1 hF.2.1 dX12_latest_81 hl (k := 5) rfl rfl (by decide) rfl (fun ls hl => ?_)
            refine lv_goto (tgt := 5) hF.1 hF.2.1 dX12_latest_84 (by decide) ?_
            exact ih x3 (x4 + 1) u _ _ _ rfl (g_X12_latest_v3 u x y x3 x4 hI hy h_k h_f h_g hs_1 c11_2 b17_6 hb_7 hs_8 c31_9) (g_X12_latest_v4 u x y x3 x4 hI hy h_k h_f h_g hs_1 c11_2 b17_6 hb_7 hs_8 c31_9) (g_X12_latest_v5 u x y x3 x4 hI hy h_k h_f h_g hs_1 c11_2 b17_6 hb_7 hs_8 c31_9) (Nat.lt_of_lt_of_le (g_X12_latest_v6 u x y x3 x4 hI hy h_k h_f h_g hs_1 c11_2 b17_6 hb_7 hs_8 c31_9) (Nat.lt_succ_iff.mp hmu)) hU hS (lv_sub hl [3, 4, 5, 1, 0] rfl)
          · refine lv_iload_n hF.1 hF.2.1 dX12_latest_34 rfl (lv_at hl 2 rfl) ?_
            refine lv_if_lt (tgt := 48) hF.1 hF.2.1 dX12_latest_35 (by decide) (fun c35_10 => ?_) (fun c35_10 => ?_)
            · refine lv_iconst (v := 1) hF.1 hF.2.1 dX12_latest_48 (by decide) ?_
              refine lv_goto (tgt := 53) hF.1 hF.2.1 dX12_latest_49 (by decide) ?_
              refine lv_istore (lv' := [(5, .int 1), (0, .ref (E.2.2 1299)), (1, .int x), (2, .int y), (3, .int x3), (4, .int x4)]) hF.1 hF.2.1 dX12_latest_53 hl (by decide) rfl (fun ls hl => ?_)
              refine lv_iload hF.1 hF.2.1 dX12_latest_55 (lv_at hl 0 rfl) ?_
              refine lv_if_eq (tgt := 79) hF.1 hF.2.1 dX12_latest_57 (by decide) (fun h9 => absurd h9 (by decide)) (fun _ => ?_)
              refine lv_iload_n hF.1 hF.2.1 dX12_latest_60 rfl (lv_at hl 4 rfl) ?_
              refine lv_if_lt (tgt := 74) hF.1 hF.2.1 dX12_latest_61 (by decide) (fun c61_11 => ?_) (fun c61_11 => ?_)
              · refine lv_iload hF.1 hF.2.1 dX12_latest_74 (lv_at hl 5 rfl) ?_
                refine lv_goto (tgt := 80) hF.1 hF.2.1 dX12_latest_76 (by decide) ?_
                refine lv_istore_n (lv' := [(3, .int x4), (5, .int 1), (0, .ref (E.2.2 1299)), (1, .int x), (2, .int y), (4, .int x4)]) hF.1 hF.2.1 dX12_latest_80 rfl hl (by decide) rfl (fun ls hl => ?_)
                refine lv_iinc (v := x4 + 1) (lv' := [(4, .int (x4 + 1)), (3, .int x4), (5, .int 1), (0, .ref (E.2.2 1299)), (1, .int x), (2, .int y)]) hF.1 hF.2.1 dX12_latest_81 hl (k := 5) rfl rfl (by decide) rfl (fun ls hl => ?_)
                refine lv_goto (tgt := 5) hF.1 hF.2.1 dX12_latest_84 (by decide) ?_
                exact ih x4 (x4 + 1) u _ _ _ rfl (g_X12_latest_v7 u x y x3 x4 hI hy h_k h_f h_g hs_1 c11_2 b17_6 hb_7 hs_8 c31_9 c35_10 c61_11) (g_X12_latest_v8 u x y x3 x4 hI hy h_k h_f h_g hs_1 c11_2 b17_6 hb_7 hs_8 c31_9 c35_10 c61_11) (g_X12_latest_v9 u x y x3 x4 hI hy h_k h_f h_g hs_1 c11_2 b17_6 hb_7 hs_8 c31_9 c35_10 c61_11) (Nat.lt_of_lt_of_le (g_X12_latest_v10 u x y x3 x4 hI hy h_k h_f h_g hs_1 c11_2 b17_6 hb_7 hs_8 c31_9 c35_10 c61_11) (Nat.lt_succ_iff.mp hmu)) hU hS (lv_sub hl [3, 4, 5, 1, 0] rfl)
              · refine lv_aload_n hF.1 hF.2.1 dX12_latest_64 rfl (lv_at hl 1 rfl) ?_
                refine lv_iload_n hF.1 hF.2.1 dX12_latest_65 rfl (lv_at hl 4 rfl) ?_
                refine lv_iload hF.1 hF.2.1 dX12_latest_66 (lv_at hl 5 rfl) ?_
                have hM9 := g_X12_isAhead l E A u x3 x4 (g_X12_latest_v11 u x y x3 x4 hI hy h_k h_f h_g hs_1 c11_2 b17_6 hb_7 hs_8 c31_9 c35_10 c61_11) (g_X12_latest_v12 u x y x3 x4 hI hy h_k h_f h_g hs_1 c11_2 b17_6 hb_7 hs_8 c31_9 c35_10 c61_11) (g_X12_latest_v13 u x y x3 x4 hI hy h_k h_f h_g hs_1 c11_2 b17_6 hb_7 hs_8 c31_9 c35_10 c61_11)
                have hR9 := q_runV (l := l) (e := e0) (below := bl0) (meth := me0) (R := qR 2 0 0) (cells := 0) (slots := 0) (st0 := [.int x4, .int x3, .ref (E.2.2 1299)]) (rest := []) hF hU hS hA 2 0 12 1299 rfl rfl rfl hM9 w_1745 w_1747 w_74 w_107 w_1748 (by decide +kernel) ⟨Nat.le_of_ble_eq_true rfl, Nat.le_of_ble_eq_true rfl⟩ dX12_latest_68 rfl hl.1 rfl (Nat.le_of_ble_eq_true rfl) ⟨Nat.le_of_ble_eq_true rfl, Nat.le_of_ble_eq_true rfl⟩
                refine q_calli hR9 hU.2.2.2 hS (fun r_14 u_12 H locs hw_13 hU hS => ?_)
                obtain ⟨hw_13_e, hw_13⟩ := hw_13
                rw [hw_13_e] at hU
                rcases hw_13 with rfl | rfl
                · refine lv_if_eq (tgt := 79) hF.1 hF.2.1 dX12_latest_71 (by decide) (fun h9 => absurd h9 (by decide)) (fun _ => ?_)
                  refine lv_iload hF.1 hF.2.1 dX12_latest_74 (lv_at hl 5 rfl) ?_
                  refine lv_goto (tgt := 80) hF.1 hF.2.1 dX12_latest_76 (by decide) ?_
                  refine lv_istore_n (lv' := [(3, .int x4), (5, .int 1), (0, .ref (E.2.2 1299)), (1, .int x), (2, .int y), (4, .int x4)]) hF.1 hF.2.1 dX12_latest_80 rfl hl (by decide) rfl (fun ls hl => ?_)
                  refine lv_iinc (v := x4 + 1) (lv' := [(4, .int (x4 + 1)), (3, .int x4), (5, .int 1), (0, .ref (E.2.2 1299)), (1, .int x), (2, .int y)]) hF.1 hF.2.1 dX12_latest_81 hl (k := 5) rfl rfl (by decide) rfl (fun ls hl => ?_)
                  refine lv_goto (tgt := 5) hF.1 hF.2.1 dX12_latest_84 (by decide) ?_
                  exact ih x4 (x4 + 1) u _ _ _ rfl (g_X12_latest_v14 u x y x3 x4 hI hy h_k h_f h_g hs_1 c11_2 b17_6 hb_7 hs_8 c31_9 c35_10 c61_11) (g_X12_latest_v15 u x y x3 x4 hI hy h_k h_f h_g hs_1 c11_2 b17_6 hb_7 hs_8 c31_9 c35_10 c61_11) (g_X12_latest_v16 u x y x3 x4 hI hy h_k h_f h_g hs_1 c11_2 b17_6 hb_7 hs_8 c31_9 c35_10 c61_11) (Nat.lt_of_lt_of_le (g_X12_latest_v17 u x y x3 x4 hI hy h_k h_f h_g hs_1 c11_2 b17_6 hb_7 hs_8 c31_9 c35_10 c61_11) (Nat.lt_succ_iff.mp hmu)) hU hS (lv_sub hl [3, 4, 5, 1, 0] rfl)
                · refine lv_if_eq (tgt := 79) hF.1 hF.2.1 dX12_latest_71 (by decide) (fun _ => ?_) (fun h9 => absurd (by decide) h9)
                  refine lv_iload_n hF.1 hF.2.1 dX12_latest_79 rfl (lv_at hl 4 rfl) ?_
                  refine lv_istore_n (lv' := [(3, .int x3), (5, .int 1), (0, .ref (E.2.2 1299)), (1, .int x), (2, .int y), (4, .int x4)]) hF.1 hF.2.1 dX12_latest_80 rfl hl (by decide) rfl (fun ls hl => ?_)
                  refine lv_iinc (v := x4 + 1) (lv' := [(4, .int (x4 + 1)), (3, .int x3), (5, .int 1), (0, .ref (E.2.2 1299)), (1, .int x), (2, .int y)]) hF.1 hF.2.1 dX12_latest_81 hl (k := 5) rfl rfl (by decide) rfl (fun ls hl => ?_)
                  refine lv_goto (tgt := 5) hF.1 hF.2.1 dX12_latest_84 (by decide) ?_
                  exact ih x3 (x4 + 1) u _ _ _ rfl (g_X12_latest_v18 u x y x3 x4 hI hy h_k h_f h_g hs_1 c11_2 b17_6 hb_7 hs_8 c31_9 c35_10 c61_11) (g_X12_latest_v19 u x y x3 x4 hI hy h_k h_f h_g hs_1 c11_2 b17_6 hb_7 hs_8 c31_9 c35_10 c61_11) (g_X12_latest_v20 u x y x3 x4 hI hy h_k h_f h_g hs_1 c11_2 b17_6 hb_7 hs_8 c31_9 c35_10 c61_11) (Nat.lt_of_lt_of_le (g_X12_latest_v21 u x y x3 x4 hI hy h_k h_f h_g hs_1 c11_2 b17_6 hb_7 hs_8 c31_9 c35_10 c61_11) (Nat.lt_succ_iff.mp hmu)) hU hS (lv_sub hl [3, 4, 5, 1, 0] rfl)
            · refine lv_aload_n hF.1 hF.2.1 dX12_latest_38 rfl (lv_at hl 0 rfl) ?_
              refine lv_iload hF.1 hF.2.1 dX12_latest_39 (lv_at hl 4 rfl) ?_
              refine lv_iload_n hF.1 hF.2.1 dX12_latest_41 rfl (lv_at hl 2 rfl) ?_
              have hM9 := g_X12_isAhead l E A u x4 y (g_X12_latest_v22 u x y x3 x4 hI hy h_k h_f h_g hs_1 c11_2 b17_6 hb_7 hs_8 c31_9 c35_10) (g_X12_latest_v23 u x y x3 x4 hI hy h_k h_f h_g hs_1 c11_2 b17_6 hb_7 hs_8 c31_9 c35_10) (g_X12_latest_v24 u x y x3 x4 hI hy h_k h_f h_g hs_1 c11_2 b17_6 hb_7 hs_8 c31_9 c35_10)
              have hR9 := q_runV (l := l) (e := e0) (below := bl0) (meth := me0) (R := qR 2 0 0) (cells := 0) (slots := 0) (st0 := [.int y, .int x4, .ref (E.2.2 1299)]) (rest := []) hF hU hS hA 2 0 12 1299 rfl rfl rfl hM9 w_1745 w_1747 w_74 w_107 w_1748 (by decide +kernel) ⟨Nat.le_of_ble_eq_true rfl, Nat.le_of_ble_eq_true rfl⟩ dX12_latest_42 rfl hl.1 rfl (Nat.le_of_ble_eq_true rfl) ⟨Nat.le_of_ble_eq_true rfl, Nat.le_of_ble_eq_true rfl⟩
              refine q_calli hR9 hU.2.2.2 hS (fun r_17 u_15 H locs hw_16 hU hS => ?_)
              obtain ⟨hw_16_e, hw_16⟩ := hw_16
              rw [hw_16_e] at hU
              rcases hw_16 with rfl | rfl
              · refine lv_if_eq (tgt := 52) hF.1 hF.2.1 dX12_latest_45 (by decide) (fun h9 => absurd h9 (by decide)) (fun _ => ?_)
                refine lv_iconst (v := 1) hF.1 hF.2.1 dX12_latest_48 (by decide) ?_
                refine lv_goto (tgt := 53) hF.1 hF.2.1 dX12_latest_49 (by decide) ?_
                refine lv_istore (lv' := [(5, .int 1), (0, .ref (E.2.2 1299)), (1, .int x), (2, .int y), (3, .int x3), (4, .int x4)]) hF.1 hF.2.1 dX12_latest_53 hl (by decide) rfl (fun ls hl => ?_)
                refine lv_iload hF.1 hF.2.1 dX12_latest_55 (lv_at hl 0 rfl) ?_
                refine lv_if_eq (tgt := 79) hF.1 hF.2.1 dX12_latest_57 (by decide) (fun h9 => absurd h9 (by decide)) (fun _ => ?_)
                refine lv_iload_n hF.1 hF.2.1 dX12_latest_60 rfl (lv_at hl 4 rfl) ?_
                refine lv_if_lt (tgt := 74) hF.1 hF.2.1 dX12_latest_61 (by decide) (fun c61_18 => ?_) (fun c61_18 => ?_)
                · refine lv_iload hF.1 hF.2.1 dX12_latest_74 (lv_at hl 5 rfl) ?_
                  refine lv_goto (tgt := 80) hF.1 hF.2.1 dX12_latest_76 (by decide) ?_
                  refine lv_istore_n (lv' := [(3, .int x4), (5, .int 1), (0, .ref (E.2.2 1299)), (1, .int x), (2, .int y), (4, .int x4)]) hF.1 hF.2.1 dX12_latest_80 rfl hl (by decide) rfl (fun ls hl => ?_)
                  refine lv_iinc (v := x4 + 1) (lv' := [(4, .int (x4 + 1)), (3, .int x4), (5, .int 1), (0, .ref (E.2.2 1299)), (1, .int x), (2, .int y)]) hF.1 hF.2.1 dX12_latest_81 hl (k := 5) rfl rfl (by decide) rfl (fun ls hl => ?_)
                  refine lv_goto (tgt := 5) hF.1 hF.2.1 dX12_latest_84 (by decide) ?_
                  exact ih x4 (x4 + 1) u _ _ _ rfl (g_X12_latest_v25 u x y x3 x4 hI hy h_k h_f h_g hs_1 c11_2 b17_6 hb_7 hs_8 c31_9 c35_10 c61_18) (g_X12_latest_v26 u x y x3 x4 hI hy h_k h_f h_g hs_1 c11_2 b17_6 hb_7 hs_8 c31_9 c35_10 c61_18) (g_X12_latest_v27 u x y x3 x4 hI hy h_k h_f h_g hs_1 c11_2 b17_6 hb_7 hs_8 c31_9 c35_10 c61_18) (Nat.lt_of_lt_of_le (g_X12_latest_v28 u x y x3 x4 hI hy h_k h_f h_g hs_1 c11_2 b17_6 hb_7 hs_8 c31_9 c35_10 c61_18) (Nat.lt_succ_iff.mp hmu)) hU hS (lv_sub hl [3, 4, 5, 1, 0] rfl)
                · refine lv_aload_n hF.1 hF.2.1 dX12_latest_64 rfl (lv_at hl 1 rfl) ?_
                  refine lv_iload_n hF.1 hF.2.1 dX12_latest_65 rfl (lv_at hl 4 rfl) ?_
                  refine lv_iload hF.1 hF.2.1 dX12_latest_66 (lv_at hl 5 rfl) ?_
                  have hM9 := g_X12_isAhead l E A u x3 x4 (g_X12_latest_v29 u x y x3 x4 hI hy h_k h_f h_g hs_1 c11_2 b17_6 hb_7 hs_8 c31_9 c35_10 c61_18) (g_X12_latest_v30 u x y x3 x4 hI hy h_k h_f h_g hs_1 c11_2 b17_6 hb_7 hs_8 c31_9 c35_10 c61_18) (g_X12_latest_v31 u x y x3 x4 hI hy h_k h_f h_g hs_1 c11_2 b17_6 hb_7 hs_8 c31_9 c35_10 c61_18)
                  have hR9 := q_runV (l := l) (e := e0) (below := bl0) (meth := me0) (R := qR 2 0 0) (cells := 0) (slots := 0) (st0 := [.int x4, .int x3, .ref (E.2.2 1299)]) (rest := []) hF hU hS hA 2 0 12 1299 rfl rfl rfl hM9 w_1745 w_1747 w_74 w_107 w_1748 (by decide +kernel) ⟨Nat.le_of_ble_eq_true rfl, Nat.le_of_ble_eq_true rfl⟩ dX12_latest_68 rfl hl.1 rfl (Nat.le_of_ble_eq_true rfl) ⟨Nat.le_of_ble_eq_true rfl, Nat.le_of_ble_eq_true rfl⟩
                  refine q_calli hR9 hU.2.2.2 hS (fun r_21 u_19 H locs hw_20 hU hS => ?_)
                  obtain ⟨hw_20_e, hw_20⟩ := hw_20
                  rw [hw_20_e] at hU
                  rcases hw_20 with rfl | rfl
                  · refine lv_if_eq (tgt := 79) hF.1 hF.2.1 dX12_latest_71 (by decide) (fun h9 => absurd h9 (by decide)) (fun _ => ?_)
                    refine lv_iload hF.1 hF.2.1 dX12_latest_74 (lv_at hl 5 rfl) ?_
                    refine lv_goto (tgt := 80) hF.1 hF.2.1 dX12_latest_76 (by decide) ?_
                    refine lv_istore_n (lv' := [(3, .int x4), (5, .int 1), (0, .ref (E.2.2 1299)), (1, .int x), (2, .int y), (4, .int x4)]) hF.1 hF.2.1 dX12_latest_80 rfl hl (by decide) rfl (fun ls hl => ?_)
                    refine lv_iinc (v := x4 + 1) (lv' := [(4, .int (x4 + 1)), (3, .int x4), (5, .int 1), (0, .ref (E.2.2 1299)), (1, .int x), (2, .int y)]) hF.1 hF.2.1 dX12_latest_81 hl (k := 5) rfl rfl (by decide) rfl (fun ls hl => ?_)
                    refine lv_goto (tgt := 5) hF.1 hF.2.1 dX12_latest_84 (by decide) ?_
                    exact ih x4 (x4 + 1) u _ _ _ rfl (g_X12_latest_v32 u x y x3 x4 hI hy h_k h_f h_g hs_1 c11_2 b17_6 hb_7 hs_8 c31_9 c35_10 c61_18) (g_X12_latest_v33 u x y x3 x4 hI hy h_k h_f h_g hs_1 c11_2 b17_6 hb_7 hs_8 c31_9 c35_10 c61_18) (g_X12_latest_v34 u x y x3 x4 hI hy h_k h_f h_g hs_1 c11_2 b17_6 hb_7 hs_8 c31_9 c35_10 c61_18) (Nat.lt_of_lt_of_le (g_X12_latest_v35 u x y x3 x4 hI hy h_k h_f h_g hs_1 c11_2 b17_6 hb_7 hs_8 c31_9 c35_10 c61_18) (Nat.lt_succ_iff.mp hmu)) hU hS (lv_sub hl [3, 4, 5, 1, 0] rfl)
                  · refine lv_if_eq (tgt := 79) hF.1 hF.2.1 dX12_latest_71 (by decide) (fun _ => ?_) (fun h9 => absurd (by decide) h9)
                    refine lv_iload_n hF.1 hF.2.1 dX12_latest_79 rfl (lv_at hl 4 rfl) ?_
                    refine lv_istore_n (lv' := [(3, .int x3), (5, .int 1), (0, .ref (E.2.2 1299)), (1, .int x), (2, .int y), (4, .int x4)]) hF.1 hF.2.1 dX12_latest_80 rfl hl (by decide) rfl (fun ls hl => ?_)
                    refine lv_iinc (v := x4 + 1) (lv' := [(4, .int (x4 + 1)), (3, .int x3), (5, .int 1), (0, .ref (E.2.2 1299)), (1, .int x), (2, .int y)]) hF.1 hF.2.1 dX12_latest_81 hl (k := 5) rfl rfl (by decide) rfl (fun ls hl => ?_)
                    refine lv_goto (tgt := 5) hF.1 hF.2.1 dX12_latest_84 (by decide) ?_
                    exact ih x3 (x4 + 1) u _ _ _ rfl (g_X12_latest_v36 u x y x3 x4 hI hy h_k h_f h_g hs_1 c11_2 b17_6 hb_7 hs_8 c31_9 c35_10 c61_18) (g_X12_latest_v37 u x y x3 x4 hI hy h_k h_f h_g hs_1 c11_2 b17_6 hb_7 hs_8 c31_9 c35_10 c61_18) (g_X12_latest_v38 u x y x3 x4 hI hy h_k h_f h_g hs_1 c11_2 b17_6 hb_7 hs_8 c31_9 c35_10 c61_18) (Nat.lt_of_lt_of_le (g_X12_latest_v39 u x y x3 x4 hI hy h_k h_f h_g hs_1 c11_2 b17_6 hb_7 hs_8 c31_9 c35_10 c61_18) (Nat.lt_succ_iff.mp hmu)) hU hS (lv_sub hl [3, 4, 5, 1, 0] rfl)
              · refine lv_if_eq (tgt := 52) hF.1 hF.2.1 dX12_latest_45 (by decide) (fun _ => ?_) (fun h9 => absurd (by decide) h9)
                refine lv_iconst (v := 0) hF.1 hF.2.1 dX12_latest_52 (by decide) ?_
                refine lv_istore (lv' := [(5, .int 0), (0, .ref (E.2.2 1299)), (1, .int x), (2, .int y), (3, .int x3), (4, .int x4)]) hF.1 hF.2.1 dX12_latest_53 hl (by decide) rfl (fun ls hl => ?_)
                refine lv_iload hF.1 hF.2.1 dX12_latest_55 (lv_at hl 0 rfl) ?_
                refine lv_if_eq (tgt := 79) hF.1 hF.2.1 dX12_latest_57 (by decide) (fun _ => ?_) (fun h9 => absurd (by decide) h9)
                refine lv_iload_n hF.1 hF.2.1 dX12_latest_79 rfl (lv_at hl 4 rfl) ?_
                refine lv_istore_n (lv' := [(3, .int x3), (5, .int 0), (0, .ref (E.2.2 1299)), (1, .int x), (2, .int y), (4, .int x4)]) hF.1 hF.2.1 dX12_latest_80 rfl hl (by decide) rfl (fun ls hl => ?_)
                refine lv_iinc (v := x4 + 1) (lv' := [(4, .int (x4 + 1)), (3, .int x3), (5, .int 0), (0, .ref (E.2.2 1299)), (1, .int x), (2, .int y)]) hF.1 hF.2.1 dX12_latest_81 hl (k := 5) rfl rfl (by decide) rfl (fun ls hl => ?_)
                refine lv_goto (tgt := 5) hF.1 hF.2.1 dX12_latest_84 (by decide) ?_
                exact ih x3 (x4 + 1) u _ _ _ rfl (g_X12_latest_v40 u x y x3 x4 hI hy h_k h_f h_g hs_1 c11_2 b17_6 hb_7 hs_8 c31_9 c35_10) (g_X12_latest_v41 u x y x3 x4 hI hy h_k h_f h_g hs_1 c11_2 b17_6 hb_7 hs_8 c31_9 c35_10) (g_X12_latest_v42 u x y x3 x4 hI hy h_k h_f h_g hs_1 c11_2 b17_6 hb_7 hs_8 c31_9 c35_10) (Nat.lt_of_lt_of_le (g_X12_latest_v43 u x y x3 x4 hI hy h_k h_f h_g hs_1 c11_2 b17_6 hb_7 hs_8 c31_9 c35_10) (Nat.lt_succ_iff.mp hmu)) hU hS (lv_sub hl [3, 4, 5, 1, 0] rfl)
        · refine lv_if_eq (tgt := 52) hF.1 hF.2.1 dX12_latest_20 (by decide) (fun _ => ?_) (fun h9 => absurd (by decide) h9)
          refine lv_iconst (v := 0) hF.1 hF.2.1 dX12_latest_52 (by decide) ?_
          refine lv_istore (lv' := [(5, .int 0), (0, .ref (E.2.2 1299)), (1, .int x), (2, .int y), (3, .int x3), (4, .int x4)]) hF.1 hF.2.1 dX12_latest_53 hl (by decide) rfl (fun ls hl => ?_)
          refine lv_iload hF.1 hF.2.1 dX12_latest_55 (lv_at hl 0 rfl) ?_
          refine lv_if_eq (tgt := 79) hF.1 hF.2.1 dX12_latest_57 (by decide) (fun _ => ?_) (fun h9 => absurd (by decide) h9)
          refine lv_iload_n hF.1 hF.2.1 dX12_latest_79 rfl (lv_at hl 4 rfl) ?_
          refine lv_istore_n (lv' := [(3, .int x3), (5, .int 0), (0, .ref (E.2.2 1299)), (1, .int x), (2, .int y), (4, .int x4)]) hF.1 hF.2.1 dX12_latest_80 rfl hl (by decide) rfl (fun ls hl => ?_)
          refine lv_iinc (v := x4 + 1) (lv' := [(4, .int (x4 + 1)), (3, .int x3), (5, .int 0), (0, .ref (E.2.2 1299)), (1, .int x), (2, .int y)]) hF.1 hF.2.1 dX12_latest_81 hl (k := 5) rfl rfl (by decide) rfl (fun ls hl => ?_)
          refine lv_goto (tgt := 5) hF.1 hF.2.1 dX12_latest_84 (by decide) ?_
          exact ih x3 (x4 + 1) u _ _ _ rfl (g_X12_latest_v44 u y x3 x4 hI hy h_k h_f h_g hs_1 c11_2) (g_X12_latest_v45 u y x3 x4 hI hy h_k h_f h_g hs_1 c11_2) (g_X12_latest_v46 u y x3 x4 hI hy h_k h_f h_g hs_1 c11_2) (Nat.lt_of_lt_of_le (g_X12_latest_v47 u y x3 x4 hI hy h_k h_f h_g hs_1 c11_2) (Nat.lt_succ_iff.mp hmu)) hU hS (lv_sub hl [3, 4, 5, 1, 0] rfl)
  refine lv_iconst (v := (-1)) hF.1 hF.2.1 dX12_latest_0 (by decide) ?_
  refine lv_istore_n (lv' := [(3, .int (-1)), (0, .ref (E.2.2 1299)), (1, .int x), (2, .int y)]) hF.1 hF.2.1 dX12_latest_1 rfl hl (by decide) rfl (fun ls hl => ?_)
  refine lv_iconst (v := 0) hF.1 hF.2.1 dX12_latest_2 (by decide) ?_
  refine lv_istore (lv' := [(4, .int 0), (3, .int (-1)), (0, .ref (E.2.2 1299)), (1, .int x), (2, .int y)]) hF.1 hF.2.1 dX12_latest_3 hl (by decide) rfl (fun ls hl => ?_)
  exact (main _) ((-1) : Int32) (0 : Int32) u _ _ _ rfl (g_X12_latest_v48 u y hI hy) (g_X12_latest_v49 u y hI hy) (g_X12_latest_v50 u y hI hy) (Nat.lt_succ_self _) hU hS (lv_sub hl [2, 3, 4, 1, 0] rfl)
set_option maxRecDepth 100000 in
theorem g_X12_isAlone_v0 (u : qS) (x : Int32) (hI : IM u) (hv : 0 ≤ x ∧ x < u.1 1247) (hvs : u.1 1247 ≤ 120) : vp_in (x) 120 := by
  have hz1247 := hI.1.s1247
  refine g_in ?_ ?_ <;> ((try simp only [Int32.lt_iff_toInt_lt, Int32.le_iff_toInt_le, ← Int32.toInt_inj, Int32.toInt_add, Int32.toInt_sub, Int32.toInt_mul, Int32.toInt_neg, Int32.reduceToInt, g_bm, g_bm'] at *); omega)
set_option maxRecDepth 100000 in
theorem g_X12_isAlone_v1 (u : qS) (x : Int32) (hI : IM u) (hv : 0 ≤ x ∧ x < u.1 1247) (hvs : u.1 1247 ≤ 120) : 0 ≤ x ∧ x < u.1 1247 := by
  have hz1247 := hI.1.s1247
  first | omega | ((try simp only [Int32.lt_iff_toInt_lt, Int32.le_iff_toInt_le, ← Int32.toInt_inj, Int32.toInt_add, Int32.toInt_sub, Int32.toInt_mul, Int32.toInt_neg, Int32.reduceToInt, g_bm, g_bm'] at *); omega) | (simp only [Int32.lt_iff_toInt_lt, Int32.le_iff_toInt_le, ← Int32.toInt_inj, Int32.toInt_add, Int32.toInt_sub, Int32.toInt_mul, Int32.toInt_neg, Int32.reduceToInt, g_bm, g_bm'] at *; simp at *; omega) | (simp_all; done)
set_option maxRecDepth 100000 in
theorem g_X12_isAlone_v2 (u : qS) (x : Int32) (hI : IM u) (hv : 0 ≤ x ∧ x < u.1 1247) (hvs : u.1 1247 ≤ 120) (hb_1 : 0 ≤ (u.2.1 1248 (x : Int32).toNatClampNeg) ∧ (u.2.1 1248 (x : Int32).toNatClampNeg) < u.1 1232) (hs_2 : 0 ≤ u.1 1232 ∧ u.1 1232 ≤ 20) : vp_in (x) 120 := by
  have hz1247 := hI.1.s1247
  refine g_in ?_ ?_ <;> ((try simp only [Int32.lt_iff_toInt_lt, Int32.le_iff_toInt_le, ← Int32.toInt_inj, Int32.toInt_add, Int32.toInt_sub, Int32.toInt_mul, Int32.toInt_neg, Int32.reduceToInt, g_bm, g_bm'] at *); omega)
set_option maxRecDepth 100000 in
theorem g_X12_isAlone_v3 (u : qS) (x : Int32) (hI : IM u) (hv : 0 ≤ x ∧ x < u.1 1247) (hvs : u.1 1247 ≤ 120) (hb_1 : 0 ≤ (u.2.1 1248 (x : Int32).toNatClampNeg) ∧ (u.2.1 1248 (x : Int32).toNatClampNeg) < u.1 1232) (hs_2 : 0 ≤ u.1 1232 ∧ u.1 1232 ≤ 20) : vp_in (x) 120 := by
  have hz1247 := hI.1.s1247
  refine g_in ?_ ?_ <;> ((try simp only [Int32.lt_iff_toInt_lt, Int32.le_iff_toInt_le, ← Int32.toInt_inj, Int32.toInt_add, Int32.toInt_sub, Int32.toInt_mul, Int32.toInt_neg, Int32.reduceToInt, g_bm, g_bm'] at *); omega)
set_option maxRecDepth 100000 in
theorem g_X12_isAlone_v4 (u : qS) (x : Int32) (hI : IM u) (hv : 0 ≤ x ∧ x < u.1 1247) (hvs : u.1 1247 ≤ 120) (hb_1 : 0 ≤ (u.2.1 1248 (x : Int32).toNatClampNeg) ∧ (u.2.1 1248 (x : Int32).toNatClampNeg) < u.1 1232) (hs_2 : 0 ≤ u.1 1232 ∧ u.1 1232 ≤ 20) : 0 ≤ x ∧ x < (u.1 1247 : Int32) := by
  have hz1247 := hI.1.s1247
  first | omega | ((try simp only [Int32.lt_iff_toInt_lt, Int32.le_iff_toInt_le, ← Int32.toInt_inj, Int32.toInt_add, Int32.toInt_sub, Int32.toInt_mul, Int32.toInt_neg, Int32.reduceToInt, g_bm, g_bm'] at *); omega) | (simp only [Int32.lt_iff_toInt_lt, Int32.le_iff_toInt_le, ← Int32.toInt_inj, Int32.toInt_add, Int32.toInt_sub, Int32.toInt_mul, Int32.toInt_neg, Int32.reduceToInt, g_bm, g_bm'] at *; simp at *; omega) | (simp_all; done)
set_option maxRecDepth 100000 in
theorem g_X12_isAlone_v5 (u : qS) (x : Int32) (hI : IM u) (hv : 0 ≤ x ∧ x < u.1 1247) (hvs : u.1 1247 ≤ 120) (hb_1 : 0 ≤ (u.2.1 1248 (x : Int32).toNatClampNeg) ∧ (u.2.1 1248 (x : Int32).toNatClampNeg) < u.1 1232) (hs_2 : 0 ≤ u.1 1232 ∧ u.1 1232 ≤ 20) : (u.1 1247 : Int32) ≤ 120 := by
  have hz1247 := hI.1.s1247
  first | omega | ((try simp only [Int32.lt_iff_toInt_lt, Int32.le_iff_toInt_le, ← Int32.toInt_inj, Int32.toInt_add, Int32.toInt_sub, Int32.toInt_mul, Int32.toInt_neg, Int32.reduceToInt, g_bm, g_bm'] at *); omega) | (simp only [Int32.lt_iff_toInt_lt, Int32.le_iff_toInt_le, ← Int32.toInt_inj, Int32.toInt_add, Int32.toInt_sub, Int32.toInt_mul, Int32.toInt_neg, Int32.reduceToInt, g_bm, g_bm'] at *; simp at *; omega) | (simp_all; done)
set_option maxRecDepth 100000 in
theorem g_X12_isAlone_v6 (u : qS) (x : Int32) (hI : IM u) (hv : 0 ≤ x ∧ x < u.1 1247) (hvs : u.1 1247 ≤ 120) (hb_1 : 0 ≤ (u.2.1 1248 (x : Int32).toNatClampNeg) ∧ (u.2.1 1248 (x : Int32).toNatClampNeg) < u.1 1232) (hs_2 : 0 ≤ u.1 1232 ∧ u.1 1232 ≤ 20) : vp_in (x) 120 := by
  have hz1247 := hI.1.s1247
  refine g_in ?_ ?_ <;> ((try simp only [Int32.lt_iff_toInt_lt, Int32.le_iff_toInt_le, ← Int32.toInt_inj, Int32.toInt_add, Int32.toInt_sub, Int32.toInt_mul, Int32.toInt_neg, Int32.reduceToInt, g_bm, g_bm'] at *); omega)
set_option maxRecDepth 100000 in
theorem g_X12_isAlone_v7 (u : qS) (x : Int32) (hI : IM u) (hv : 0 ≤ x ∧ x < u.1 1247) (hvs : u.1 1247 ≤ 120) (hb_1 : 0 ≤ (u.2.1 1248 (x : Int32).toNatClampNeg) ∧ (u.2.1 1248 (x : Int32).toNatClampNeg) < u.1 1232) (hs_2 : 0 ≤ u.1 1232 ∧ u.1 1232 ≤ 20) : vp_in (u.2.1 1248 (x : Int32).toNatClampNeg) 20 := by
  have hz1247 := hI.1.s1247
  refine g_in ?_ ?_ <;> ((try simp only [Int32.lt_iff_toInt_lt, Int32.le_iff_toInt_le, ← Int32.toInt_inj, Int32.toInt_add, Int32.toInt_sub, Int32.toInt_mul, Int32.toInt_neg, Int32.reduceToInt, g_bm, g_bm'] at *); omega)
set_option maxRecDepth 100000 in
theorem g_X12_isAlone_v8 (u : qS) (x : Int32) (hI : IM u) (hv : 0 ≤ x ∧ x < u.1 1247) (hvs : u.1 1247 ≤ 120) (hb_1 : 0 ≤ (u.2.1 1248 (x : Int32).toNatClampNeg) ∧ (u.2.1 1248 (x : Int32).toNatClampNeg) < u.1 1232) (hs_2 : 0 ≤ u.1 1232 ∧ u.1 1232 ≤ 20) (c42_6 : (u.2.1 1251 (x : Int32).toNatClampNeg : Int32) < (u.2.1 1236 (u.2.1 1248 (x : Int32).toNatClampNeg : Int32).toNatClampNeg)) : (0 : Int32) = 1 ∨ (0 : Int32) = 0 := by
  have hz1247 := hI.1.s1247
  first | omega | ((try simp only [Int32.lt_iff_toInt_lt, Int32.le_iff_toInt_le, ← Int32.toInt_inj, Int32.toInt_add, Int32.toInt_sub, Int32.toInt_mul, Int32.toInt_neg, Int32.reduceToInt, g_bm, g_bm'] at *); omega) | (simp only [Int32.lt_iff_toInt_lt, Int32.le_iff_toInt_le, ← Int32.toInt_inj, Int32.toInt_add, Int32.toInt_sub, Int32.toInt_mul, Int32.toInt_neg, Int32.reduceToInt, g_bm, g_bm'] at *; simp at *; omega) | (simp_all; done)
set_option maxRecDepth 100000 in
theorem g_X12_isAlone_v9 (u : qS) (x : Int32) (hI : IM u) (hv : 0 ≤ x ∧ x < u.1 1247) (hvs : u.1 1247 ≤ 120) (hb_1 : 0 ≤ (u.2.1 1248 (x : Int32).toNatClampNeg) ∧ (u.2.1 1248 (x : Int32).toNatClampNeg) < u.1 1232) (hs_2 : 0 ≤ u.1 1232 ∧ u.1 1232 ≤ 20) (c42_6 : ¬ (u.2.1 1251 (x : Int32).toNatClampNeg : Int32) < (u.2.1 1236 (u.2.1 1248 (x : Int32).toNatClampNeg : Int32).toNatClampNeg)) : vp_in (u.2.1 1248 (x : Int32).toNatClampNeg) 20 := by
  have hz1247 := hI.1.s1247
  refine g_in ?_ ?_ <;> ((try simp only [Int32.lt_iff_toInt_lt, Int32.le_iff_toInt_le, ← Int32.toInt_inj, Int32.toInt_add, Int32.toInt_sub, Int32.toInt_mul, Int32.toInt_neg, Int32.reduceToInt, g_bm, g_bm'] at *); omega)
set_option maxRecDepth 100000 in
theorem g_X12_isAlone_v10 (u : qS) (x : Int32) (hI : IM u) (hv : 0 ≤ x ∧ x < u.1 1247) (hvs : u.1 1247 ≤ 120) (hb_1 : 0 ≤ (u.2.1 1248 (x : Int32).toNatClampNeg) ∧ (u.2.1 1248 (x : Int32).toNatClampNeg) < u.1 1232) (hs_2 : 0 ≤ u.1 1232 ∧ u.1 1232 ≤ 20) (c42_6 : ¬ (u.2.1 1251 (x : Int32).toNatClampNeg : Int32) < (u.2.1 1236 (u.2.1 1248 (x : Int32).toNatClampNeg : Int32).toNatClampNeg)) (c52_7 : (u.2.1 1237 (u.2.1 1248 (x : Int32).toNatClampNeg : Int32).toNatClampNeg) < (((u.2.1 1251 (x : Int32).toNatClampNeg) + (u.2.1 1252 (x : Int32).toNatClampNeg)) - 1 : Int32)) : (0 : Int32) = 1 ∨ (0 : Int32) = 0 := by
  have hz1247 := hI.1.s1247
  first | omega | ((try simp only [Int32.lt_iff_toInt_lt, Int32.le_iff_toInt_le, ← Int32.toInt_inj, Int32.toInt_add, Int32.toInt_sub, Int32.toInt_mul, Int32.toInt_neg, Int32.reduceToInt, g_bm, g_bm'] at *); omega) | (simp only [Int32.lt_iff_toInt_lt, Int32.le_iff_toInt_le, ← Int32.toInt_inj, Int32.toInt_add, Int32.toInt_sub, Int32.toInt_mul, Int32.toInt_neg, Int32.reduceToInt, g_bm, g_bm'] at *; simp at *; omega) | (simp_all; done)
set_option maxRecDepth 100000 in
theorem g_X12_isAlone_v11 (u : qS) (x : Int32) (hI : IM u) (hv : 0 ≤ x ∧ x < u.1 1247) (hvs : u.1 1247 ≤ 120) (hb_1 : 0 ≤ (u.2.1 1248 (x : Int32).toNatClampNeg) ∧ (u.2.1 1248 (x : Int32).toNatClampNeg) < u.1 1232) (hs_2 : 0 ≤ u.1 1232 ∧ u.1 1232 ≤ 20) (c42_6 : ¬ (u.2.1 1251 (x : Int32).toNatClampNeg : Int32) < (u.2.1 1236 (u.2.1 1248 (x : Int32).toNatClampNeg : Int32).toNatClampNeg)) (c52_7 : ¬ (u.2.1 1237 (u.2.1 1248 (x : Int32).toNatClampNeg : Int32).toNatClampNeg) < (((u.2.1 1251 (x : Int32).toNatClampNeg) + (u.2.1 1252 (x : Int32).toNatClampNeg)) - 1 : Int32)) : vp_in (x) 120 := by
  have hz1247 := hI.1.s1247
  refine g_in ?_ ?_ <;> ((try simp only [Int32.lt_iff_toInt_lt, Int32.le_iff_toInt_le, ← Int32.toInt_inj, Int32.toInt_add, Int32.toInt_sub, Int32.toInt_mul, Int32.toInt_neg, Int32.reduceToInt, g_bm, g_bm'] at *); omega)
set_option maxRecDepth 100000 in
theorem g_X12_isAlone_v12 (u : qS) (x : Int32) (r_5 : Int32) (hI : IM u) (hv : 0 ≤ x ∧ x < u.1 1247) (hvs : u.1 1247 ≤ 120) (hb_1 : 0 ≤ (u.2.1 1248 (x : Int32).toNatClampNeg) ∧ (u.2.1 1248 (x : Int32).toNatClampNeg) < u.1 1232) (hs_2 : 0 ≤ u.1 1232 ∧ u.1 1232 ≤ 20) (c42_6 : ¬ (u.2.1 1251 (x : Int32).toNatClampNeg : Int32) < (u.2.1 1236 (u.2.1 1248 (x : Int32).toNatClampNeg : Int32).toNatClampNeg)) (c52_7 : ¬ (u.2.1 1237 (u.2.1 1248 (x : Int32).toNatClampNeg : Int32).toNatClampNeg) < (((u.2.1 1251 (x : Int32).toNatClampNeg) + (u.2.1 1252 (x : Int32).toNatClampNeg)) - 1 : Int32)) (c73_8 : (u.2.1 1254 (x : Int32).toNatClampNeg : Int32) < 0) (c100_9 : (r_5 &&& 1 : Int32) = 1) : (1 : Int32) = 1 ∨ (1 : Int32) = 0 := by
  have hz1247 := hI.1.s1247
  first | omega | ((try simp only [Int32.lt_iff_toInt_lt, Int32.le_iff_toInt_le, ← Int32.toInt_inj, Int32.toInt_add, Int32.toInt_sub, Int32.toInt_mul, Int32.toInt_neg, Int32.reduceToInt, g_bm, g_bm'] at *); omega) | (simp only [Int32.lt_iff_toInt_lt, Int32.le_iff_toInt_le, ← Int32.toInt_inj, Int32.toInt_add, Int32.toInt_sub, Int32.toInt_mul, Int32.toInt_neg, Int32.reduceToInt, g_bm, g_bm'] at *; simp at *; omega) | (simp_all; done)
set_option maxRecDepth 100000 in
theorem g_X12_isAlone_v13 (u : qS) (x : Int32) (r_5 : Int32) (hI : IM u) (hv : 0 ≤ x ∧ x < u.1 1247) (hvs : u.1 1247 ≤ 120) (hb_1 : 0 ≤ (u.2.1 1248 (x : Int32).toNatClampNeg) ∧ (u.2.1 1248 (x : Int32).toNatClampNeg) < u.1 1232) (hs_2 : 0 ≤ u.1 1232 ∧ u.1 1232 ≤ 20) (c42_6 : ¬ (u.2.1 1251 (x : Int32).toNatClampNeg : Int32) < (u.2.1 1236 (u.2.1 1248 (x : Int32).toNatClampNeg : Int32).toNatClampNeg)) (c52_7 : ¬ (u.2.1 1237 (u.2.1 1248 (x : Int32).toNatClampNeg : Int32).toNatClampNeg) < (((u.2.1 1251 (x : Int32).toNatClampNeg) + (u.2.1 1252 (x : Int32).toNatClampNeg)) - 1 : Int32)) (c73_8 : (u.2.1 1254 (x : Int32).toNatClampNeg : Int32) < 0) (c100_9 : ¬ (r_5 &&& 1 : Int32) = 1) (c105_10 : ¬ (r_5 : Int32) = 0) : (0 : Int32) = 1 ∨ (0 : Int32) = 0 := by
  have hz1247 := hI.1.s1247
  first | omega | ((try simp only [Int32.lt_iff_toInt_lt, Int32.le_iff_toInt_le, ← Int32.toInt_inj, Int32.toInt_add, Int32.toInt_sub, Int32.toInt_mul, Int32.toInt_neg, Int32.reduceToInt, g_bm, g_bm'] at *); omega) | (simp only [Int32.lt_iff_toInt_lt, Int32.le_iff_toInt_le, ← Int32.toInt_inj, Int32.toInt_add, Int32.toInt_sub, Int32.toInt_mul, Int32.toInt_neg, Int32.reduceToInt, g_bm, g_bm'] at *; simp at *; omega) | (simp_all; done)
set_option maxRecDepth 100000 in
theorem g_X12_isAlone_v14 (u : qS) (x : Int32) (r_5 : Int32) (hI : IM u) (hv : 0 ≤ x ∧ x < u.1 1247) (hvs : u.1 1247 ≤ 120) (hb_1 : 0 ≤ (u.2.1 1248 (x : Int32).toNatClampNeg) ∧ (u.2.1 1248 (x : Int32).toNatClampNeg) < u.1 1232) (hs_2 : 0 ≤ u.1 1232 ∧ u.1 1232 ≤ 20) (c42_6 : ¬ (u.2.1 1251 (x : Int32).toNatClampNeg : Int32) < (u.2.1 1236 (u.2.1 1248 (x : Int32).toNatClampNeg : Int32).toNatClampNeg)) (c52_7 : ¬ (u.2.1 1237 (u.2.1 1248 (x : Int32).toNatClampNeg : Int32).toNatClampNeg) < (((u.2.1 1251 (x : Int32).toNatClampNeg) + (u.2.1 1252 (x : Int32).toNatClampNeg)) - 1 : Int32)) (c73_8 : (u.2.1 1254 (x : Int32).toNatClampNeg : Int32) < 0) (c100_9 : ¬ (r_5 &&& 1 : Int32) = 1) (c105_10 : (r_5 : Int32) = 0) : (1 : Int32) = 1 ∨ (1 : Int32) = 0 := by
  have hz1247 := hI.1.s1247
  first | omega | ((try simp only [Int32.lt_iff_toInt_lt, Int32.le_iff_toInt_le, ← Int32.toInt_inj, Int32.toInt_add, Int32.toInt_sub, Int32.toInt_mul, Int32.toInt_neg, Int32.reduceToInt, g_bm, g_bm'] at *); omega) | (simp only [Int32.lt_iff_toInt_lt, Int32.le_iff_toInt_le, ← Int32.toInt_inj, Int32.toInt_add, Int32.toInt_sub, Int32.toInt_mul, Int32.toInt_neg, Int32.reduceToInt, g_bm, g_bm'] at *; simp at *; omega) | (simp_all; done)
set_option maxRecDepth 100000 in
theorem g_X12_isAlone_v15 (u : qS) (x : Int32) (hI : IM u) (hv : 0 ≤ x ∧ x < u.1 1247) (hvs : u.1 1247 ≤ 120) (hb_1 : 0 ≤ (u.2.1 1248 (x : Int32).toNatClampNeg) ∧ (u.2.1 1248 (x : Int32).toNatClampNeg) < u.1 1232) (hs_2 : 0 ≤ u.1 1232 ∧ u.1 1232 ≤ 20) (c42_6 : ¬ (u.2.1 1251 (x : Int32).toNatClampNeg : Int32) < (u.2.1 1236 (u.2.1 1248 (x : Int32).toNatClampNeg : Int32).toNatClampNeg)) (c52_7 : ¬ (u.2.1 1237 (u.2.1 1248 (x : Int32).toNatClampNeg : Int32).toNatClampNeg) < (((u.2.1 1251 (x : Int32).toNatClampNeg) + (u.2.1 1252 (x : Int32).toNatClampNeg)) - 1 : Int32)) (c73_8 : ¬ (u.2.1 1254 (x : Int32).toNatClampNeg : Int32) < 0) : vp_in (x) 120 := by
  have hz1247 := hI.1.s1247
  refine g_in ?_ ?_ <;> ((try simp only [Int32.lt_iff_toInt_lt, Int32.le_iff_toInt_le, ← Int32.toInt_inj, Int32.toInt_add, Int32.toInt_sub, Int32.toInt_mul, Int32.toInt_neg, Int32.reduceToInt, g_bm, g_bm'] at *); omega)
set_option maxRecDepth 100000 in
theorem g_X12_isAlone_v16 (u : qS) (x : Int32) (hI : IM u) (hv : 0 ≤ x ∧ x < u.1 1247) (hvs : u.1 1247 ≤ 120) (hb_1 : 0 ≤ (u.2.1 1248 (x : Int32).toNatClampNeg) ∧ (u.2.1 1248 (x : Int32).toNatClampNeg) < u.1 1232) (hs_2 : 0 ≤ u.1 1232 ∧ u.1 1232 ≤ 20) (c42_6 : ¬ (u.2.1 1251 (x : Int32).toNatClampNeg : Int32) < (u.2.1 1236 (u.2.1 1248 (x : Int32).toNatClampNeg : Int32).toNatClampNeg)) (c52_7 : ¬ (u.2.1 1237 (u.2.1 1248 (x : Int32).toNatClampNeg : Int32).toNatClampNeg) < (((u.2.1 1251 (x : Int32).toNatClampNeg) + (u.2.1 1252 (x : Int32).toNatClampNeg)) - 1 : Int32)) (c73_8 : ¬ (u.2.1 1254 (x : Int32).toNatClampNeg : Int32) < 0) : vp_in (x) 120 := by
  have hz1247 := hI.1.s1247
  refine g_in ?_ ?_ <;> ((try simp only [Int32.lt_iff_toInt_lt, Int32.le_iff_toInt_le, ← Int32.toInt_inj, Int32.toInt_add, Int32.toInt_sub, Int32.toInt_mul, Int32.toInt_neg, Int32.reduceToInt, g_bm, g_bm'] at *); omega)
set_option maxRecDepth 100000 in
theorem g_X12_isAlone_v17 (u : qS) (x : Int32) (r_5 : Int32) (hI : IM u) (hv : 0 ≤ x ∧ x < u.1 1247) (hvs : u.1 1247 ≤ 120) (hb_1 : 0 ≤ (u.2.1 1248 (x : Int32).toNatClampNeg) ∧ (u.2.1 1248 (x : Int32).toNatClampNeg) < u.1 1232) (hs_2 : 0 ≤ u.1 1232 ∧ u.1 1232 ≤ 20) (c42_6 : ¬ (u.2.1 1251 (x : Int32).toNatClampNeg : Int32) < (u.2.1 1236 (u.2.1 1248 (x : Int32).toNatClampNeg : Int32).toNatClampNeg)) (c52_7 : ¬ (u.2.1 1237 (u.2.1 1248 (x : Int32).toNatClampNeg : Int32).toNatClampNeg) < (((u.2.1 1251 (x : Int32).toNatClampNeg) + (u.2.1 1252 (x : Int32).toNatClampNeg)) - 1 : Int32)) (c73_8 : ¬ (u.2.1 1254 (x : Int32).toNatClampNeg : Int32) < 0) (b89_14 : (u.2.1 1251 (x : Int32).toNatClampNeg) ≤ (u.2.1 1254 (x : Int32).toNatClampNeg) ∧ (u.2.1 1254 (x : Int32).toNatClampNeg) ≤ (((u.2.1 1251 (x : Int32).toNatClampNeg) + (u.2.1 1252 (x : Int32).toNatClampNeg)) - 1)) (c100_15 : (r_5 &&& 1 : Int32) = 1) : (1 : Int32) = 1 ∨ (1 : Int32) = 0 := by
  have hz1247 := hI.1.s1247
  first | omega | ((try simp only [Int32.lt_iff_toInt_lt, Int32.le_iff_toInt_le, ← Int32.toInt_inj, Int32.toInt_add, Int32.toInt_sub, Int32.toInt_mul, Int32.toInt_neg, Int32.reduceToInt, g_bm, g_bm'] at *); omega) | (simp only [Int32.lt_iff_toInt_lt, Int32.le_iff_toInt_le, ← Int32.toInt_inj, Int32.toInt_add, Int32.toInt_sub, Int32.toInt_mul, Int32.toInt_neg, Int32.reduceToInt, g_bm, g_bm'] at *; simp at *; omega) | (simp_all; done)
set_option maxRecDepth 100000 in
theorem g_X12_isAlone_v18 (u : qS) (x : Int32) (r_5 : Int32) (hI : IM u) (hv : 0 ≤ x ∧ x < u.1 1247) (hvs : u.1 1247 ≤ 120) (hb_1 : 0 ≤ (u.2.1 1248 (x : Int32).toNatClampNeg) ∧ (u.2.1 1248 (x : Int32).toNatClampNeg) < u.1 1232) (hs_2 : 0 ≤ u.1 1232 ∧ u.1 1232 ≤ 20) (c42_6 : ¬ (u.2.1 1251 (x : Int32).toNatClampNeg : Int32) < (u.2.1 1236 (u.2.1 1248 (x : Int32).toNatClampNeg : Int32).toNatClampNeg)) (c52_7 : ¬ (u.2.1 1237 (u.2.1 1248 (x : Int32).toNatClampNeg : Int32).toNatClampNeg) < (((u.2.1 1251 (x : Int32).toNatClampNeg) + (u.2.1 1252 (x : Int32).toNatClampNeg)) - 1 : Int32)) (c73_8 : ¬ (u.2.1 1254 (x : Int32).toNatClampNeg : Int32) < 0) (b89_14 : (u.2.1 1251 (x : Int32).toNatClampNeg) ≤ (u.2.1 1254 (x : Int32).toNatClampNeg) ∧ (u.2.1 1254 (x : Int32).toNatClampNeg) ≤ (((u.2.1 1251 (x : Int32).toNatClampNeg) + (u.2.1 1252 (x : Int32).toNatClampNeg)) - 1)) (c100_15 : ¬ (r_5 &&& 1 : Int32) = 1) (c105_16 : ¬ (r_5 : Int32) = 0) : (0 : Int32) = 1 ∨ (0 : Int32) = 0 := by
  have hz1247 := hI.1.s1247
  first | omega | ((try simp only [Int32.lt_iff_toInt_lt, Int32.le_iff_toInt_le, ← Int32.toInt_inj, Int32.toInt_add, Int32.toInt_sub, Int32.toInt_mul, Int32.toInt_neg, Int32.reduceToInt, g_bm, g_bm'] at *); omega) | (simp only [Int32.lt_iff_toInt_lt, Int32.le_iff_toInt_le, ← Int32.toInt_inj, Int32.toInt_add, Int32.toInt_sub, Int32.toInt_mul, Int32.toInt_neg, Int32.reduceToInt, g_bm, g_bm'] at *; simp at *; omega) | (simp_all; done)
set_option maxRecDepth 100000 in
theorem g_X12_isAlone_v19 (u : qS) (x : Int32) (r_5 : Int32) (hI : IM u) (hv : 0 ≤ x ∧ x < u.1 1247) (hvs : u.1 1247 ≤ 120) (hb_1 : 0 ≤ (u.2.1 1248 (x : Int32).toNatClampNeg) ∧ (u.2.1 1248 (x : Int32).toNatClampNeg) < u.1 1232) (hs_2 : 0 ≤ u.1 1232 ∧ u.1 1232 ≤ 20) (c42_6 : ¬ (u.2.1 1251 (x : Int32).toNatClampNeg : Int32) < (u.2.1 1236 (u.2.1 1248 (x : Int32).toNatClampNeg : Int32).toNatClampNeg)) (c52_7 : ¬ (u.2.1 1237 (u.2.1 1248 (x : Int32).toNatClampNeg : Int32).toNatClampNeg) < (((u.2.1 1251 (x : Int32).toNatClampNeg) + (u.2.1 1252 (x : Int32).toNatClampNeg)) - 1 : Int32)) (c73_8 : ¬ (u.2.1 1254 (x : Int32).toNatClampNeg : Int32) < 0) (b89_14 : (u.2.1 1251 (x : Int32).toNatClampNeg) ≤ (u.2.1 1254 (x : Int32).toNatClampNeg) ∧ (u.2.1 1254 (x : Int32).toNatClampNeg) ≤ (((u.2.1 1251 (x : Int32).toNatClampNeg) + (u.2.1 1252 (x : Int32).toNatClampNeg)) - 1)) (c100_15 : ¬ (r_5 &&& 1 : Int32) = 1) (c105_16 : (r_5 : Int32) = 0) : (1 : Int32) = 1 ∨ (1 : Int32) = 0 := by
  have hz1247 := hI.1.s1247
  first | omega | ((try simp only [Int32.lt_iff_toInt_lt, Int32.le_iff_toInt_le, ← Int32.toInt_inj, Int32.toInt_add, Int32.toInt_sub, Int32.toInt_mul, Int32.toInt_neg, Int32.reduceToInt, g_bm, g_bm'] at *); omega) | (simp only [Int32.lt_iff_toInt_lt, Int32.le_iff_toInt_le, ← Int32.toInt_inj, Int32.toInt_add, Int32.toInt_sub, Int32.toInt_mul, Int32.toInt_neg, Int32.reduceToInt, g_bm, g_bm'] at *; simp at *; omega) | (simp_all; done)
set_option maxRecDepth 100000 in
theorem g_X12_isAlone_v20 (u : qS) (x : Int32) (hI : IM u) (hv : 0 ≤ x ∧ x < u.1 1247) (hvs : u.1 1247 ≤ 120) (hb_1 : 0 ≤ (u.2.1 1248 (x : Int32).toNatClampNeg) ∧ (u.2.1 1248 (x : Int32).toNatClampNeg) < u.1 1232) (hs_2 : 0 ≤ u.1 1232 ∧ u.1 1232 ≤ 20) (c42_6 : ¬ (u.2.1 1251 (x : Int32).toNatClampNeg : Int32) < (u.2.1 1236 (u.2.1 1248 (x : Int32).toNatClampNeg : Int32).toNatClampNeg)) (c52_7 : ¬ (u.2.1 1237 (u.2.1 1248 (x : Int32).toNatClampNeg : Int32).toNatClampNeg) < (((u.2.1 1251 (x : Int32).toNatClampNeg) + (u.2.1 1252 (x : Int32).toNatClampNeg)) - 1 : Int32)) (c73_8 : ¬ (u.2.1 1254 (x : Int32).toNatClampNeg : Int32) < 0) (b89_14 : ¬ ((u.2.1 1251 (x : Int32).toNatClampNeg) ≤ (u.2.1 1254 (x : Int32).toNatClampNeg) ∧ (u.2.1 1254 (x : Int32).toNatClampNeg) ≤ (((u.2.1 1251 (x : Int32).toNatClampNeg) + (u.2.1 1252 (x : Int32).toNatClampNeg)) - 1))) : (0 : Int32) = 1 ∨ (0 : Int32) = 0 := by
  have hz1247 := hI.1.s1247
  first | omega | ((try simp only [Int32.lt_iff_toInt_lt, Int32.le_iff_toInt_le, ← Int32.toInt_inj, Int32.toInt_add, Int32.toInt_sub, Int32.toInt_mul, Int32.toInt_neg, Int32.reduceToInt, g_bm, g_bm'] at *); omega) | (simp only [Int32.lt_iff_toInt_lt, Int32.le_iff_toInt_le, ← Int32.toInt_inj, Int32.toInt_add, Int32.toInt_sub, Int32.toInt_mul, Int32.toInt_neg, Int32.reduceToInt, g_bm, g_bm'] at *; simp at *; omega) | (simp_all; done)
set_option maxHeartbeats 1000000 in
set_option maxRecDepth 100000 in
theorem g_X12_isAlone (l : Launch) (E : qE) (A : Nat → Prop) (u : qS) (x : Int32) (hI : IM u) (hv : 0 ≤ x ∧ x < u.1 1247) (hvs : u.1 1247 ≤ 120) : Met l yX12_isAlone (uws yX12_isAlone cX12_isAlone 6 (some .boolean)) (qR 2 0 0) (qPc E A 1 u [.ref (E.2.2 1299), .int x]) (qQi E A 1 (fun r u1 => u1 = u ∧ (r = 1 ∨ r = 0))) 0 0 A := by
  refine q_met (own := RX12) (f := 2) [.ref (E.2.2 1299), .int x] (by decide) (Nat.le_of_ble_eq_true rfl) rfl ?_
  intro p0 e0 s0 m0 bl0 me0 cd0 ls hF hr hlocks hU hS hA hl
  have hl : lv_has ls 6 [(0, .ref (E.2.2 1299)), (1, .int x)] := hl
  refine lv_aload_n hF.1 hF.2.1 dX12_isAlone_0 rfl (lv_at hl 0 rfl) ?_
  refine q_get (v := .ref (E.2.2 1248)) hF hU dX12_isAlone_1 0 12 48 1248 1299 rfl rfl rfl rfl inX12 (by decide) (by decide) w_1380 rfl rfl ?_
  refine lv_iload_n hF.1 hF.2.1 dX12_isAlone_4 rfl (lv_at hl 1 rfl) ?_
  refine q_iald (v := u.2.1 1248 (x : Int32).toNatClampNeg) hF hU dX12_isAlone_5 27 1248 rfl rfl (g_X12_isAlone_v0 u x hI hv hvs) rfl ?_
  have hb_1 : 0 ≤ (u.2.1 1248 (x : Int32).toNatClampNeg) ∧ (u.2.1 1248 (x : Int32).toNatClampNeg) < u.1 1232 := hI.2.1.r1248 x (g_X12_isAlone_v1 u x hI hv hvs)
  have hs_2 : 0 ≤ u.1 1232 ∧ u.1 1232 ≤ 20 := hI.1.s1232
  refine lv_istore_n (lv' := [(2, .int (u.2.1 1248 (x : Int32).toNatClampNeg)), (0, .ref (E.2.2 1299)), (1, .int x)]) hF.1 hF.2.1 dX12_isAlone_6 rfl hl (by decide) rfl (fun ls hl => ?_)
  refine lv_aload_n hF.1 hF.2.1 dX12_isAlone_7 rfl (lv_at hl 1 rfl) ?_
  refine q_get (v := .ref (E.2.2 1251)) hF hU dX12_isAlone_8 0 12 51 1251 1299 rfl rfl rfl rfl inX12 (by decide) (by decide) w_1383 rfl rfl ?_
  refine lv_iload_n hF.1 hF.2.1 dX12_isAlone_11 rfl (lv_at hl 2 rfl) ?_
  refine q_iald (v := u.2.1 1251 (x : Int32).toNatClampNeg) hF hU dX12_isAlone_12 30 1251 rfl rfl (g_X12_isAlone_v2 u x hI hv hvs hb_1 hs_2) rfl ?_
  refine lv_aload_n hF.1 hF.2.1 dX12_isAlone_13 rfl (lv_at hl 1 rfl) ?_
  refine q_get (v := .ref (E.2.2 1252)) hF hU dX12_isAlone_14 0 12 52 1252 1299 rfl rfl rfl rfl inX12 (by decide) (by decide) w_1384 rfl rfl ?_
  refine lv_iload_n hF.1 hF.2.1 dX12_isAlone_17 rfl (lv_at hl 2 rfl) ?_
  refine q_iald (v := u.2.1 1252 (x : Int32).toNatClampNeg) hF hU dX12_isAlone_18 31 1252 rfl rfl (g_X12_isAlone_v3 u x hI hv hvs hb_1 hs_2) rfl ?_
  refine lv_iadd hF.1 hF.2.1 dX12_isAlone_19 ?_
  refine lv_iconst (v := 1) hF.1 hF.2.1 dX12_isAlone_20 (by decide) ?_
  refine lv_isub hF.1 hF.2.1 dX12_isAlone_21 ?_
  refine lv_istore_n (lv' := [(3, .int (((u.2.1 1251 (x : Int32).toNatClampNeg) + (u.2.1 1252 (x : Int32).toNatClampNeg)) - 1)), (2, .int (u.2.1 1248 (x : Int32).toNatClampNeg)), (0, .ref (E.2.2 1299)), (1, .int x)]) hF.1 hF.2.1 dX12_isAlone_22 rfl hl (by decide) rfl (fun ls hl => ?_)
  refine lv_aload_n hF.1 hF.2.1 dX12_isAlone_23 rfl (lv_at hl 2 rfl) ?_
  refine lv_iload_n hF.1 hF.2.1 dX12_isAlone_24 rfl (lv_at hl 3 rfl) ?_
  have hM9 := g_X12_formNow l E A u x hI (g_X12_isAlone_v4 u x hI hv hvs hb_1 hs_2) (g_X12_isAlone_v5 u x hI hv hvs hb_1 hs_2)
  have hR9 := q_runV (l := l) (e := e0) (below := bl0) (meth := me0) (R := qR 2 0 0) (cells := 0) (slots := 0) (st0 := [.int x, .ref (E.2.2 1299)]) (rest := []) hF hU hS hA 1 0 12 1299 rfl rfl rfl hM9 w_1753 w_1755 w_76 w_107 w_1756 (by decide +kernel) ⟨Nat.le_of_ble_eq_true rfl, Nat.le_of_ble_eq_true rfl⟩ dX12_isAlone_25 rfl hl.1 rfl (Nat.le_of_ble_eq_true rfl) ⟨Nat.le_of_ble_eq_true rfl, Nat.le_of_ble_eq_true rfl⟩
  refine q_calli hR9 hU.2.2.2 hS (fun r_5 u_3 H locs hw_4 hU hS => ?_)
  obtain ⟨hw_4_e, hw_4⟩ := hw_4
  rw [hw_4_e] at hU
  refine lv_istore (lv' := [(4, .int r_5), (3, .int (((u.2.1 1251 (x : Int32).toNatClampNeg) + (u.2.1 1252 (x : Int32).toNatClampNeg)) - 1)), (2, .int (u.2.1 1248 (x : Int32).toNatClampNeg)), (0, .ref (E.2.2 1299)), (1, .int x)]) hF.1 hF.2.1 dX12_isAlone_28 hl (by decide) rfl (fun ls hl => ?_)
  refine lv_aload_n hF.1 hF.2.1 dX12_isAlone_30 rfl (lv_at hl 3 rfl) ?_
  refine q_get (v := .ref (E.2.2 1251)) hF hU dX12_isAlone_31 0 12 51 1251 1299 rfl rfl rfl rfl inX12 (by decide) (by decide) w_1383 rfl rfl ?_
  refine lv_iload_n hF.1 hF.2.1 dX12_isAlone_34 rfl (lv_at hl 4 rfl) ?_
  refine q_iald (v := u.2.1 1251 (x : Int32).toNatClampNeg) hF hU dX12_isAlone_35 30 1251 rfl rfl (g_X12_isAlone_v6 u x hI hv hvs hb_1 hs_2) rfl ?_
  refine lv_aload_n hF.1 hF.2.1 dX12_isAlone_36 rfl (lv_at hl 3 rfl) ?_
  refine q_get (v := .ref (E.2.2 1236)) hF hU dX12_isAlone_37 0 12 36 1236 1299 rfl rfl rfl rfl inX12 (by decide) (by decide) w_1368 rfl rfl ?_
  refine lv_iload_n hF.1 hF.2.1 dX12_isAlone_40 rfl (lv_at hl 2 rfl) ?_
  refine q_iald (v := u.2.1 1236 (u.2.1 1248 (x : Int32).toNatClampNeg : Int32).toNatClampNeg) hF hU dX12_isAlone_41 22 1236 rfl rfl (g_X12_isAlone_v7 u x hI hv hvs hb_1 hs_2) rfl ?_
  refine lv_icmp_lt (tgt := 59) hF.1 hF.2.1 dX12_isAlone_42 (by decide) (fun c42_6 => ?_) (fun c42_6 => ?_)
  · refine lv_iconst (v := 0) hF.1 hF.2.1 dX12_isAlone_59 (by decide) ?_
    refine lv_istore (lv' := [(5, .int 0), (4, .int r_5), (3, .int (((u.2.1 1251 (x : Int32).toNatClampNeg) + (u.2.1 1252 (x : Int32).toNatClampNeg)) - 1)), (2, .int (u.2.1 1248 (x : Int32).toNatClampNeg)), (0, .ref (E.2.2 1299)), (1, .int x)]) hF.1 hF.2.1 dX12_isAlone_60 hl (by decide) rfl (fun ls hl => ?_)
    refine lv_iload hF.1 hF.2.1 dX12_isAlone_62 (lv_at hl 0 rfl) ?_
    refine lv_if_eq (tgt := 112) hF.1 hF.2.1 dX12_isAlone_64 (by decide) (fun _ => ?_) (fun h9 => absurd (by decide) h9)
    refine lv_iconst (v := 0) hF.1 hF.2.1 dX12_isAlone_112 (by decide) ?_
    exact q_iret hF hr (by decide) hlocks hU hS dX12_isAlone_113 ⟨rfl, (g_X12_isAlone_v8 u x hI hv hvs hb_1 hs_2 c42_6)⟩
  · refine lv_iload_n hF.1 hF.2.1 dX12_isAlone_45 rfl (lv_at hl 1 rfl) ?_
    refine lv_aload_n hF.1 hF.2.1 dX12_isAlone_46 rfl (lv_at hl 3 rfl) ?_
    refine q_get (v := .ref (E.2.2 1237)) hF hU dX12_isAlone_47 0 12 37 1237 1299 rfl rfl rfl rfl inX12 (by decide) (by decide) w_1369 rfl rfl ?_
    refine lv_iload_n hF.1 hF.2.1 dX12_isAlone_50 rfl (lv_at hl 2 rfl) ?_
    refine q_iald (v := u.2.1 1237 (u.2.1 1248 (x : Int32).toNatClampNeg : Int32).toNatClampNeg) hF hU dX12_isAlone_51 23 1237 rfl rfl (g_X12_isAlone_v9 u x hI hv hvs hb_1 hs_2 c42_6) rfl ?_
    refine lv_icmp_gt (tgt := 59) hF.1 hF.2.1 dX12_isAlone_52 (by decide) (fun c52_7 => ?_) (fun c52_7 => ?_)
    · refine lv_iconst (v := 0) hF.1 hF.2.1 dX12_isAlone_59 (by decide) ?_
      refine lv_istore (lv' := [(5, .int 0), (4, .int r_5), (3, .int (((u.2.1 1251 (x : Int32).toNatClampNeg) + (u.2.1 1252 (x : Int32).toNatClampNeg)) - 1)), (2, .int (u.2.1 1248 (x : Int32).toNatClampNeg)), (0, .ref (E.2.2 1299)), (1, .int x)]) hF.1 hF.2.1 dX12_isAlone_60 hl (by decide) rfl (fun ls hl => ?_)
      refine lv_iload hF.1 hF.2.1 dX12_isAlone_62 (lv_at hl 0 rfl) ?_
      refine lv_if_eq (tgt := 112) hF.1 hF.2.1 dX12_isAlone_64 (by decide) (fun _ => ?_) (fun h9 => absurd (by decide) h9)
      refine lv_iconst (v := 0) hF.1 hF.2.1 dX12_isAlone_112 (by decide) ?_
      exact q_iret hF hr (by decide) hlocks hU hS dX12_isAlone_113 ⟨rfl, (g_X12_isAlone_v10 u x hI hv hvs hb_1 hs_2 c42_6 c52_7)⟩
    · refine lv_iconst (v := 1) hF.1 hF.2.1 dX12_isAlone_55 (by decide) ?_
      refine lv_goto (tgt := 60) hF.1 hF.2.1 dX12_isAlone_56 (by decide) ?_
      refine lv_istore (lv' := [(5, .int 1), (4, .int r_5), (3, .int (((u.2.1 1251 (x : Int32).toNatClampNeg) + (u.2.1 1252 (x : Int32).toNatClampNeg)) - 1)), (2, .int (u.2.1 1248 (x : Int32).toNatClampNeg)), (0, .ref (E.2.2 1299)), (1, .int x)]) hF.1 hF.2.1 dX12_isAlone_60 hl (by decide) rfl (fun ls hl => ?_)
      refine lv_iload hF.1 hF.2.1 dX12_isAlone_62 (lv_at hl 0 rfl) ?_
      refine lv_if_eq (tgt := 112) hF.1 hF.2.1 dX12_isAlone_64 (by decide) (fun h9 => absurd h9 (by decide)) (fun _ => ?_)
      refine lv_aload_n hF.1 hF.2.1 dX12_isAlone_67 rfl (lv_at hl 4 rfl) ?_
      refine q_get (v := .ref (E.2.2 1254)) hF hU dX12_isAlone_68 0 12 54 1254 1299 rfl rfl rfl rfl inX12 (by decide) (by decide) w_1386 rfl rfl ?_
      refine lv_iload_n hF.1 hF.2.1 dX12_isAlone_71 rfl (lv_at hl 5 rfl) ?_
      refine q_iald (v := u.2.1 1254 (x : Int32).toNatClampNeg) hF hU dX12_isAlone_72 33 1254 rfl rfl (g_X12_isAlone_v11 u x hI hv hvs hb_1 hs_2 c42_6 c52_7) rfl ?_
      refine lv_if_lt (tgt := 95) hF.1 hF.2.1 dX12_isAlone_73 (by decide) (fun c73_8 => ?_) (fun c73_8 => ?_)
      · refine lv_iload hF.1 hF.2.1 dX12_isAlone_95 (lv_at hl 1 rfl) ?_
        refine lv_iconst (v := 1) hF.1 hF.2.1 dX12_isAlone_97 (by decide) ?_
        refine lv_iand hF.1 hF.2.1 dX12_isAlone_98 ?_
        refine lv_iconst (v := 1) hF.1 hF.2.1 dX12_isAlone_99 (by decide) ?_
        refine lv_icmp_eq (tgt := 108) hF.1 hF.2.1 dX12_isAlone_100 (by decide) (fun c100_9 => ?_) (fun c100_9 => ?_)
        · refine lv_iconst (v := 1) hF.1 hF.2.1 dX12_isAlone_108 (by decide) ?_
          refine lv_goto (tgt := 113) hF.1 hF.2.1 dX12_isAlone_109 (by decide) ?_
          exact q_iret hF hr (by decide) hlocks hU hS dX12_isAlone_113 ⟨rfl, (g_X12_isAlone_v12 u x r_5 hI hv hvs hb_1 hs_2 c42_6 c52_7 c73_8 c100_9)⟩
        · refine lv_iload hF.1 hF.2.1 dX12_isAlone_103 (lv_at hl 1 rfl) ?_
          refine lv_if_ne (tgt := 112) hF.1 hF.2.1 dX12_isAlone_105 (by decide) (fun c105_10 => ?_) (fun c105_10 => ?_)
          · refine lv_iconst (v := 0) hF.1 hF.2.1 dX12_isAlone_112 (by decide) ?_
            exact q_iret hF hr (by decide) hlocks hU hS dX12_isAlone_113 ⟨rfl, (g_X12_isAlone_v13 u x r_5 hI hv hvs hb_1 hs_2 c42_6 c52_7 c73_8 c100_9 c105_10)⟩
          · refine lv_iconst (v := 1) hF.1 hF.2.1 dX12_isAlone_108 (by decide) ?_
            refine lv_goto (tgt := 113) hF.1 hF.2.1 dX12_isAlone_109 (by decide) ?_
            exact q_iret hF hr (by decide) hlocks hU hS dX12_isAlone_113 ⟨rfl, (g_X12_isAlone_v14 u x r_5 hI hv hvs hb_1 hs_2 c42_6 c52_7 c73_8 c100_9 c105_10)⟩
      · refine lv_aload_n hF.1 hF.2.1 dX12_isAlone_76 rfl (lv_at hl 4 rfl) ?_
        refine q_get (v := .ref (E.2.2 1254)) hF hU dX12_isAlone_77 0 12 54 1254 1299 rfl rfl rfl rfl inX12 (by decide) (by decide) w_1386 rfl rfl ?_
        refine lv_iload_n hF.1 hF.2.1 dX12_isAlone_80 rfl (lv_at hl 5 rfl) ?_
        refine q_iald (v := u.2.1 1254 (x : Int32).toNatClampNeg) hF hU dX12_isAlone_81 33 1254 rfl rfl (g_X12_isAlone_v15 u x hI hv hvs hb_1 hs_2 c42_6 c52_7 c73_8) rfl ?_
        refine lv_aload_n hF.1 hF.2.1 dX12_isAlone_82 rfl (lv_at hl 4 rfl) ?_
        refine q_get (v := .ref (E.2.2 1251)) hF hU dX12_isAlone_83 0 12 51 1251 1299 rfl rfl rfl rfl inX12 (by decide) (by decide) w_1383 rfl rfl ?_
        refine lv_iload_n hF.1 hF.2.1 dX12_isAlone_86 rfl (lv_at hl 5 rfl) ?_
        refine q_iald (v := u.2.1 1251 (x : Int32).toNatClampNeg) hF hU dX12_isAlone_87 30 1251 rfl rfl (g_X12_isAlone_v16 u x hI hv hvs hb_1 hs_2 c42_6 c52_7 c73_8) rfl ?_
        refine lv_iload_n hF.1 hF.2.1 dX12_isAlone_88 rfl (lv_at hl 2 rfl) ?_
        have hM9 := g_X12_within l E A u (u.2.1 1254 (x : Int32).toNatClampNeg) (u.2.1 1251 (x : Int32).toNatClampNeg) (((u.2.1 1251 (x : Int32).toNatClampNeg) + (u.2.1 1252 (x : Int32).toNatClampNeg)) - 1)
        have hR9 := q_runS (l := l) (e := e0) (below := bl0) (meth := me0) (R := qR 2 0 0) (cells := 0) (slots := 0) (st0 := [.int (((u.2.1 1251 (x : Int32).toNatClampNeg) + (u.2.1 1252 (x : Int32).toNatClampNeg)) - 1), .int (u.2.1 1251 (x : Int32).toNatClampNeg), .int (u.2.1 1254 (x : Int32).toNatClampNeg)]) (rest := []) hF hU hS hA 3 hM9 w_1683 w_1684 w_107 w_1685 (by decide +kernel) ⟨Nat.le_of_ble_eq_true rfl, Nat.le_of_ble_eq_true rfl⟩ dX12_isAlone_89 rfl hl.1 rfl (Nat.le_of_ble_eq_true rfl) ⟨Nat.le_of_ble_eq_true rfl, Nat.le_of_ble_eq_true rfl⟩
        refine q_calli hR9 hU.2.2.2 hS (fun r_13 u_11 H locs hw_12 hU hS => ?_)
        obtain ⟨hw_12_e, hw_12⟩ := hw_12
        rw [hw_12_e] at hU
        have hw_12 : (r_13 = 1 ∧ ((u.2.1 1251 (x : Int32).toNatClampNeg) ≤ (u.2.1 1254 (x : Int32).toNatClampNeg) ∧ (u.2.1 1254 (x : Int32).toNatClampNeg) ≤ (((u.2.1 1251 (x : Int32).toNatClampNeg) + (u.2.1 1252 (x : Int32).toNatClampNeg)) - 1))) ∨ (r_13 = 0 ∧ ¬ ((u.2.1 1251 (x : Int32).toNatClampNeg) ≤ (u.2.1 1254 (x : Int32).toNatClampNeg) ∧ (u.2.1 1254 (x : Int32).toNatClampNeg) ≤ (((u.2.1 1251 (x : Int32).toNatClampNeg) + (u.2.1 1252 (x : Int32).toNatClampNeg)) - 1))) := hw_12
        rcases hw_12 with ⟨rfl, b89_14⟩ | ⟨rfl, b89_14⟩
        · refine lv_if_eq (tgt := 112) hF.1 hF.2.1 dX12_isAlone_92 (by decide) (fun h9 => absurd h9 (by decide)) (fun _ => ?_)
          refine lv_iload hF.1 hF.2.1 dX12_isAlone_95 (lv_at hl 1 rfl) ?_
          refine lv_iconst (v := 1) hF.1 hF.2.1 dX12_isAlone_97 (by decide) ?_
          refine lv_iand hF.1 hF.2.1 dX12_isAlone_98 ?_
          refine lv_iconst (v := 1) hF.1 hF.2.1 dX12_isAlone_99 (by decide) ?_
          refine lv_icmp_eq (tgt := 108) hF.1 hF.2.1 dX12_isAlone_100 (by decide) (fun c100_15 => ?_) (fun c100_15 => ?_)
          · refine lv_iconst (v := 1) hF.1 hF.2.1 dX12_isAlone_108 (by decide) ?_
            refine lv_goto (tgt := 113) hF.1 hF.2.1 dX12_isAlone_109 (by decide) ?_
            exact q_iret hF hr (by decide) hlocks hU hS dX12_isAlone_113 ⟨rfl, (g_X12_isAlone_v17 u x r_5 hI hv hvs hb_1 hs_2 c42_6 c52_7 c73_8 b89_14 c100_15)⟩
          · refine lv_iload hF.1 hF.2.1 dX12_isAlone_103 (lv_at hl 1 rfl) ?_
            refine lv_if_ne (tgt := 112) hF.1 hF.2.1 dX12_isAlone_105 (by decide) (fun c105_16 => ?_) (fun c105_16 => ?_)
            · refine lv_iconst (v := 0) hF.1 hF.2.1 dX12_isAlone_112 (by decide) ?_
              exact q_iret hF hr (by decide) hlocks hU hS dX12_isAlone_113 ⟨rfl, (g_X12_isAlone_v18 u x r_5 hI hv hvs hb_1 hs_2 c42_6 c52_7 c73_8 b89_14 c100_15 c105_16)⟩
            · refine lv_iconst (v := 1) hF.1 hF.2.1 dX12_isAlone_108 (by decide) ?_
              refine lv_goto (tgt := 113) hF.1 hF.2.1 dX12_isAlone_109 (by decide) ?_
              exact q_iret hF hr (by decide) hlocks hU hS dX12_isAlone_113 ⟨rfl, (g_X12_isAlone_v19 u x r_5 hI hv hvs hb_1 hs_2 c42_6 c52_7 c73_8 b89_14 c100_15 c105_16)⟩
        · refine lv_if_eq (tgt := 112) hF.1 hF.2.1 dX12_isAlone_92 (by decide) (fun _ => ?_) (fun h9 => absurd (by decide) h9)
          refine lv_iconst (v := 0) hF.1 hF.2.1 dX12_isAlone_112 (by decide) ?_
          exact q_iret hF hr (by decide) hlocks hU hS dX12_isAlone_113 ⟨rfl, (g_X12_isAlone_v20 u x hI hv hvs hb_1 hs_2 c42_6 c52_7 c73_8 b89_14)⟩
set_option maxRecDepth 100000 in
theorem g_X12_areBoth_v0 (u : qS) (x : Int32) (y : Int32) (hI : IM u) (hx : 0 ≤ x ∧ x < u.1 1247) (hy : 0 ≤ y ∧ y < u.1 1247) (hys : u.1 1247 ≤ 120) : vp_in (x) 120 := by
  have hz1247 := hI.1.s1247
  refine g_in ?_ ?_ <;> ((try simp only [Int32.lt_iff_toInt_lt, Int32.le_iff_toInt_le, ← Int32.toInt_inj, Int32.toInt_add, Int32.toInt_sub, Int32.toInt_mul, Int32.toInt_neg, Int32.reduceToInt, g_bm, g_bm'] at *); omega)
set_option maxRecDepth 100000 in
theorem g_X12_areBoth_v1 (u : qS) (x : Int32) (y : Int32) (hI : IM u) (hx : 0 ≤ x ∧ x < u.1 1247) (hy : 0 ≤ y ∧ y < u.1 1247) (hys : u.1 1247 ≤ 120) : vp_in (y) 120 := by
  have hz1247 := hI.1.s1247
  refine g_in ?_ ?_ <;> ((try simp only [Int32.lt_iff_toInt_lt, Int32.le_iff_toInt_le, ← Int32.toInt_inj, Int32.toInt_add, Int32.toInt_sub, Int32.toInt_mul, Int32.toInt_neg, Int32.reduceToInt, g_bm, g_bm'] at *); omega)
set_option maxRecDepth 100000 in
theorem g_X12_areBoth_v2 (u : qS) (x : Int32) (y : Int32) (hI : IM u) (hx : 0 ≤ x ∧ x < u.1 1247) (hy : 0 ≤ y ∧ y < u.1 1247) (hys : u.1 1247 ≤ 120) (c12_1 : (u.2.1 1251 (x : Int32).toNatClampNeg : Int32) < (u.2.1 1251 (y : Int32).toNatClampNeg)) (c43_2 : ¬ (x : Int32) = x) : vp_in (x) 120 := by
  have hz1247 := hI.1.s1247
  refine g_in ?_ ?_ <;> ((try simp only [Int32.lt_iff_toInt_lt, Int32.le_iff_toInt_le, ← Int32.toInt_inj, Int32.toInt_add, Int32.toInt_sub, Int32.toInt_mul, Int32.toInt_neg, Int32.reduceToInt, g_bm, g_bm'] at *); omega)
set_option maxRecDepth 100000 in
theorem g_X12_areBoth_v3 (u : qS) (x : Int32) (y : Int32) (hI : IM u) (hx : 0 ≤ x ∧ x < u.1 1247) (hy : 0 ≤ y ∧ y < u.1 1247) (hys : u.1 1247 ≤ 120) (c12_1 : (u.2.1 1251 (x : Int32).toNatClampNeg : Int32) < (u.2.1 1251 (y : Int32).toNatClampNeg)) (c43_2 : ¬ (x : Int32) = x) : 0 ≤ x ∧ x < u.1 1247 := by
  have hz1247 := hI.1.s1247
  first | omega | ((try simp only [Int32.lt_iff_toInt_lt, Int32.le_iff_toInt_le, ← Int32.toInt_inj, Int32.toInt_add, Int32.toInt_sub, Int32.toInt_mul, Int32.toInt_neg, Int32.reduceToInt, g_bm, g_bm'] at *); omega) | (simp only [Int32.lt_iff_toInt_lt, Int32.le_iff_toInt_le, ← Int32.toInt_inj, Int32.toInt_add, Int32.toInt_sub, Int32.toInt_mul, Int32.toInt_neg, Int32.reduceToInt, g_bm, g_bm'] at *; simp at *; omega) | (simp_all; done)
set_option maxRecDepth 100000 in
theorem g_X12_areBoth_v4 (u : qS) (x : Int32) (y : Int32) (hI : IM u) (hx : 0 ≤ x ∧ x < u.1 1247) (hy : 0 ≤ y ∧ y < u.1 1247) (hys : u.1 1247 ≤ 120) (c12_1 : (u.2.1 1251 (x : Int32).toNatClampNeg : Int32) < (u.2.1 1251 (y : Int32).toNatClampNeg)) (c43_2 : ¬ (x : Int32) = x) (hb_3 : 0 ≤ (u.2.1 1248 (x : Int32).toNatClampNeg) ∧ (u.2.1 1248 (x : Int32).toNatClampNeg) < u.1 1232) (hs_4 : 0 ≤ u.1 1232 ∧ u.1 1232 ≤ 20) : vp_in (u.2.1 1248 (x : Int32).toNatClampNeg) 20 := by
  have hz1247 := hI.1.s1247
  refine g_in ?_ ?_ <;> ((try simp only [Int32.lt_iff_toInt_lt, Int32.le_iff_toInt_le, ← Int32.toInt_inj, Int32.toInt_add, Int32.toInt_sub, Int32.toInt_mul, Int32.toInt_neg, Int32.reduceToInt, g_bm, g_bm'] at *); omega)
set_option maxRecDepth 100000 in
theorem g_X12_areBoth_v5 (u : qS) (x : Int32) (y : Int32) (hI : IM u) (hx : 0 ≤ x ∧ x < u.1 1247) (hy : 0 ≤ y ∧ y < u.1 1247) (hys : u.1 1247 ≤ 120) (c12_1 : (u.2.1 1251 (x : Int32).toNatClampNeg : Int32) < (u.2.1 1251 (y : Int32).toNatClampNeg)) (c43_2 : ¬ (x : Int32) = x) (hb_3 : 0 ≤ (u.2.1 1248 (x : Int32).toNatClampNeg) ∧ (u.2.1 1248 (x : Int32).toNatClampNeg) < u.1 1232) (hs_4 : 0 ≤ u.1 1232 ∧ u.1 1232 ≤ 20) : vp_in (x) 120 := by
  have hz1247 := hI.1.s1247
  refine g_in ?_ ?_ <;> ((try simp only [Int32.lt_iff_toInt_lt, Int32.le_iff_toInt_le, ← Int32.toInt_inj, Int32.toInt_add, Int32.toInt_sub, Int32.toInt_mul, Int32.toInt_neg, Int32.reduceToInt, g_bm, g_bm'] at *); omega)
set_option maxRecDepth 100000 in
theorem g_X12_areBoth_v6 (u : qS) (x : Int32) (y : Int32) (hI : IM u) (hx : 0 ≤ x ∧ x < u.1 1247) (hy : 0 ≤ y ∧ y < u.1 1247) (hys : u.1 1247 ≤ 120) (c12_1 : (u.2.1 1251 (x : Int32).toNatClampNeg : Int32) < (u.2.1 1251 (y : Int32).toNatClampNeg)) (c43_2 : ¬ (x : Int32) = x) (hb_3 : 0 ≤ (u.2.1 1248 (x : Int32).toNatClampNeg) ∧ (u.2.1 1248 (x : Int32).toNatClampNeg) < u.1 1232) (hs_4 : 0 ≤ u.1 1232 ∧ u.1 1232 ≤ 20) : 0 ≤ x ∧ x < u.1 1247 := by
  have hz1247 := hI.1.s1247
  first | omega | ((try simp only [Int32.lt_iff_toInt_lt, Int32.le_iff_toInt_le, ← Int32.toInt_inj, Int32.toInt_add, Int32.toInt_sub, Int32.toInt_mul, Int32.toInt_neg, Int32.reduceToInt, g_bm, g_bm'] at *); omega) | (simp only [Int32.lt_iff_toInt_lt, Int32.le_iff_toInt_le, ← Int32.toInt_inj, Int32.toInt_add, Int32.toInt_sub, Int32.toInt_mul, Int32.toInt_neg, Int32.reduceToInt, g_bm, g_bm'] at *; simp at *; omega) | (simp_all; done)
set_option maxRecDepth 100000 in
theorem g_X12_areBoth_v7 (u : qS) (x : Int32) (y : Int32) (hI : IM u) (hx : 0 ≤ x ∧ x < u.1 1247) (hy : 0 ≤ y ∧ y < u.1 1247) (hys : u.1 1247 ≤ 120) (c12_1 : (u.2.1 1251 (x : Int32).toNatClampNeg : Int32) < (u.2.1 1251 (y : Int32).toNatClampNeg)) (c43_2 : ¬ (x : Int32) = x) (hb_3 : 0 ≤ (u.2.1 1248 (x : Int32).toNatClampNeg) ∧ (u.2.1 1248 (x : Int32).toNatClampNeg) < u.1 1232) (hs_4 : 0 ≤ u.1 1232 ∧ u.1 1232 ≤ 20) : vp_in (u.2.1 1248 (x : Int32).toNatClampNeg) 20 := by
  have hz1247 := hI.1.s1247
  refine g_in ?_ ?_ <;> ((try simp only [Int32.lt_iff_toInt_lt, Int32.le_iff_toInt_le, ← Int32.toInt_inj, Int32.toInt_add, Int32.toInt_sub, Int32.toInt_mul, Int32.toInt_neg, Int32.reduceToInt, g_bm, g_bm'] at *); omega)
set_option maxRecDepth 100000 in
theorem g_X12_areBoth_v8 (u : qS) (x : Int32) (y : Int32) (hI : IM u) (hx : 0 ≤ x ∧ x < u.1 1247) (hy : 0 ≤ y ∧ y < u.1 1247) (hys : u.1 1247 ≤ 120) (c12_1 : (u.2.1 1251 (x : Int32).toNatClampNeg : Int32) < (u.2.1 1251 (y : Int32).toNatClampNeg)) (c43_2 : ¬ (x : Int32) = x) (hb_3 : 0 ≤ (u.2.1 1248 (x : Int32).toNatClampNeg) ∧ (u.2.1 1248 (x : Int32).toNatClampNeg) < u.1 1232) (hs_4 : 0 ≤ u.1 1232 ∧ u.1 1232 ≤ 20) : vp_in (y) 120 := by
  have hz1247 := hI.1.s1247
  refine g_in ?_ ?_ <;> ((try simp only [Int32.lt_iff_toInt_lt, Int32.le_iff_toInt_le, ← Int32.toInt_inj, Int32.toInt_add, Int32.toInt_sub, Int32.toInt_mul, Int32.toInt_neg, Int32.reduceToInt, g_bm, g_bm'] at *); omega)
set_option maxRecDepth 100000 in
theorem g_X12_areBoth_v9 (u : qS) (x : Int32) (y : Int32) (hI : IM u) (hx : 0 ≤ x ∧ x < u.1 1247) (hy : 0 ≤ y ∧ y < u.1 1247) (hys : u.1 1247 ≤ 120) (c12_1 : (u.2.1 1251 (x : Int32).toNatClampNeg : Int32) < (u.2.1 1251 (y : Int32).toNatClampNeg)) (c43_2 : ¬ (x : Int32) = x) (hb_3 : 0 ≤ (u.2.1 1248 (x : Int32).toNatClampNeg) ∧ (u.2.1 1248 (x : Int32).toNatClampNeg) < u.1 1232) (hs_4 : 0 ≤ u.1 1232 ∧ u.1 1232 ≤ 20) : 0 ≤ y ∧ y < u.1 1247 := by
  have hz1247 := hI.1.s1247
  first | omega | ((try simp only [Int32.lt_iff_toInt_lt, Int32.le_iff_toInt_le, ← Int32.toInt_inj, Int32.toInt_add, Int32.toInt_sub, Int32.toInt_mul, Int32.toInt_neg, Int32.reduceToInt, g_bm, g_bm'] at *); omega) | (simp only [Int32.lt_iff_toInt_lt, Int32.le_iff_toInt_le, ← Int32.toInt_inj, Int32.toInt_add, Int32.toInt_sub, Int32.toInt_mul, Int32.toInt_neg, Int32.reduceToInt, g_bm, g_bm'] at *; simp at *; omega) | (simp_all; done)
set_option maxRecDepth 100000 in
theorem g_X12_areBoth_v10 (u : qS) (x : Int32) (y : Int32) (hI : IM u) (hx : 0 ≤ x ∧ x < u.1 1247) (hy : 0 ≤ y ∧ y < u.1 1247) (hys : u.1 1247 ≤ 120) (c12_1 : (u.2.1 1251 (x : Int32).toNatClampNeg : Int32) < (u.2.1 1251 (y : Int32).toNatClampNeg)) (c43_2 : ¬ (x : Int32) = x) (hb_3 : 0 ≤ (u.2.1 1248 (x : Int32).toNatClampNeg) ∧ (u.2.1 1248 (x : Int32).toNatClampNeg) < u.1 1232) (hs_4 : 0 ≤ u.1 1232 ∧ u.1 1232 ≤ 20) (hb_5 : 0 ≤ (u.2.1 1248 (y : Int32).toNatClampNeg) ∧ (u.2.1 1248 (y : Int32).toNatClampNeg) < u.1 1232) : vp_in (u.2.1 1248 (y : Int32).toNatClampNeg) 20 := by
  have hz1247 := hI.1.s1247
  refine g_in ?_ ?_ <;> ((try simp only [Int32.lt_iff_toInt_lt, Int32.le_iff_toInt_le, ← Int32.toInt_inj, Int32.toInt_add, Int32.toInt_sub, Int32.toInt_mul, Int32.toInt_neg, Int32.reduceToInt, g_bm, g_bm'] at *); omega)
set_option maxRecDepth 100000 in
theorem g_X12_areBoth_v11 (u : qS) (x : Int32) (y : Int32) (hI : IM u) (hx : 0 ≤ x ∧ x < u.1 1247) (hy : 0 ≤ y ∧ y < u.1 1247) (hys : u.1 1247 ≤ 120) (c12_1 : (u.2.1 1251 (x : Int32).toNatClampNeg : Int32) < (u.2.1 1251 (y : Int32).toNatClampNeg)) (c43_2 : ¬ (x : Int32) = x) (hb_3 : 0 ≤ (u.2.1 1248 (x : Int32).toNatClampNeg) ∧ (u.2.1 1248 (x : Int32).toNatClampNeg) < u.1 1232) (hs_4 : 0 ≤ u.1 1232 ∧ u.1 1232 ≤ 20) (hb_5 : 0 ≤ (u.2.1 1248 (y : Int32).toNatClampNeg) ∧ (u.2.1 1248 (y : Int32).toNatClampNeg) < u.1 1232) : vp_in (y) 120 := by
  have hz1247 := hI.1.s1247
  refine g_in ?_ ?_ <;> ((try simp only [Int32.lt_iff_toInt_lt, Int32.le_iff_toInt_le, ← Int32.toInt_inj, Int32.toInt_add, Int32.toInt_sub, Int32.toInt_mul, Int32.toInt_neg, Int32.reduceToInt, g_bm, g_bm'] at *); omega)
set_option maxRecDepth 100000 in
theorem g_X12_areBoth_v12 (u : qS) (x : Int32) (y : Int32) (hI : IM u) (hx : 0 ≤ x ∧ x < u.1 1247) (hy : 0 ≤ y ∧ y < u.1 1247) (hys : u.1 1247 ≤ 120) (c12_1 : (u.2.1 1251 (x : Int32).toNatClampNeg : Int32) < (u.2.1 1251 (y : Int32).toNatClampNeg)) (c43_2 : ¬ (x : Int32) = x) (hb_3 : 0 ≤ (u.2.1 1248 (x : Int32).toNatClampNeg) ∧ (u.2.1 1248 (x : Int32).toNatClampNeg) < u.1 1232) (hs_4 : 0 ≤ u.1 1232 ∧ u.1 1232 ≤ 20) (hb_5 : 0 ≤ (u.2.1 1248 (y : Int32).toNatClampNeg) ∧ (u.2.1 1248 (y : Int32).toNatClampNeg) < u.1 1232) : 0 ≤ y ∧ y < u.1 1247 := by
  have hz1247 := hI.1.s1247
  first | omega | ((try simp only [Int32.lt_iff_toInt_lt, Int32.le_iff_toInt_le, ← Int32.toInt_inj, Int32.toInt_add, Int32.toInt_sub, Int32.toInt_mul, Int32.toInt_neg, Int32.reduceToInt, g_bm, g_bm'] at *); omega) | (simp only [Int32.lt_iff_toInt_lt, Int32.le_iff_toInt_le, ← Int32.toInt_inj, Int32.toInt_add, Int32.toInt_sub, Int32.toInt_mul, Int32.toInt_neg, Int32.reduceToInt, g_bm, g_bm'] at *; simp at *; omega) | (simp_all; done)
set_option maxRecDepth 100000 in
theorem g_X12_areBoth_v13 (u : qS) (x : Int32) (y : Int32) (hI : IM u) (hx : 0 ≤ x ∧ x < u.1 1247) (hy : 0 ≤ y ∧ y < u.1 1247) (hys : u.1 1247 ≤ 120) (c12_1 : (u.2.1 1251 (x : Int32).toNatClampNeg : Int32) < (u.2.1 1251 (y : Int32).toNatClampNeg)) (c43_2 : ¬ (x : Int32) = x) (hb_3 : 0 ≤ (u.2.1 1248 (x : Int32).toNatClampNeg) ∧ (u.2.1 1248 (x : Int32).toNatClampNeg) < u.1 1232) (hs_4 : 0 ≤ u.1 1232 ∧ u.1 1232 ≤ 20) (hb_5 : 0 ≤ (u.2.1 1248 (y : Int32).toNatClampNeg) ∧ (u.2.1 1248 (y : Int32).toNatClampNeg) < u.1 1232) : vp_in (u.2.1 1248 (y : Int32).toNatClampNeg) 20 := by
  have hz1247 := hI.1.s1247
  refine g_in ?_ ?_ <;> ((try simp only [Int32.lt_iff_toInt_lt, Int32.le_iff_toInt_le, ← Int32.toInt_inj, Int32.toInt_add, Int32.toInt_sub, Int32.toInt_mul, Int32.toInt_neg, Int32.reduceToInt, g_bm, g_bm'] at *); omega)
set_option maxRecDepth 100000 in
theorem g_X12_areBoth_v14 (u : qS) (x : Int32) (y : Int32) (hI : IM u) (hx : 0 ≤ x ∧ x < u.1 1247) (hy : 0 ≤ y ∧ y < u.1 1247) (hys : u.1 1247 ≤ 120) (c12_1 : (u.2.1 1251 (x : Int32).toNatClampNeg : Int32) < (u.2.1 1251 (y : Int32).toNatClampNeg)) (c43_2 : ¬ (x : Int32) = x) (hb_3 : 0 ≤ (u.2.1 1248 (x : Int32).toNatClampNeg) ∧ (u.2.1 1248 (x : Int32).toNatClampNeg) < u.1 1232) (hs_4 : 0 ≤ u.1 1232 ∧ u.1 1232 ≤ 20) (hb_5 : 0 ≤ (u.2.1 1248 (y : Int32).toNatClampNeg) ∧ (u.2.1 1248 (y : Int32).toNatClampNeg) < u.1 1232) : vp_in (x) 120 := by
  have hz1247 := hI.1.s1247
  refine g_in ?_ ?_ <;> ((try simp only [Int32.lt_iff_toInt_lt, Int32.le_iff_toInt_le, ← Int32.toInt_inj, Int32.toInt_add, Int32.toInt_sub, Int32.toInt_mul, Int32.toInt_neg, Int32.reduceToInt, g_bm, g_bm'] at *); omega)
set_option maxRecDepth 100000 in
theorem g_X12_areBoth_v15 (u : qS) (x : Int32) (y : Int32) (hI : IM u) (hx : 0 ≤ x ∧ x < u.1 1247) (hy : 0 ≤ y ∧ y < u.1 1247) (hys : u.1 1247 ≤ 120) (c12_1 : (u.2.1 1251 (x : Int32).toNatClampNeg : Int32) < (u.2.1 1251 (y : Int32).toNatClampNeg)) (c43_2 : ¬ (x : Int32) = x) (hb_3 : 0 ≤ (u.2.1 1248 (x : Int32).toNatClampNeg) ∧ (u.2.1 1248 (x : Int32).toNatClampNeg) < u.1 1232) (hs_4 : 0 ≤ u.1 1232 ∧ u.1 1232 ≤ 20) (hb_5 : 0 ≤ (u.2.1 1248 (y : Int32).toNatClampNeg) ∧ (u.2.1 1248 (y : Int32).toNatClampNeg) < u.1 1232) : vp_in (x) 120 := by
  have hz1247 := hI.1.s1247
  refine g_in ?_ ?_ <;> ((try simp only [Int32.lt_iff_toInt_lt, Int32.le_iff_toInt_le, ← Int32.toInt_inj, Int32.toInt_add, Int32.toInt_sub, Int32.toInt_mul, Int32.toInt_neg, Int32.reduceToInt, g_bm, g_bm'] at *); omega)
set_option maxRecDepth 100000 in
theorem g_X12_areBoth_v16 (u : qS) (x : Int32) (y : Int32) (hI : IM u) (hx : 0 ≤ x ∧ x < u.1 1247) (hy : 0 ≤ y ∧ y < u.1 1247) (hys : u.1 1247 ≤ 120) (c12_1 : (u.2.1 1251 (x : Int32).toNatClampNeg : Int32) < (u.2.1 1251 (y : Int32).toNatClampNeg)) (c43_2 : ¬ (x : Int32) = x) (hb_3 : 0 ≤ (u.2.1 1248 (x : Int32).toNatClampNeg) ∧ (u.2.1 1248 (x : Int32).toNatClampNeg) < u.1 1232) (hs_4 : 0 ≤ u.1 1232 ∧ u.1 1232 ≤ 20) (hb_5 : 0 ≤ (u.2.1 1248 (y : Int32).toNatClampNeg) ∧ (u.2.1 1248 (y : Int32).toNatClampNeg) < u.1 1232) : vp_in (x) 120 := by
  have hz1247 := hI.1.s1247
  refine g_in ?_ ?_ <;> ((try simp only [Int32.lt_iff_toInt_lt, Int32.le_iff_toInt_le, ← Int32.toInt_inj, Int32.toInt_add, Int32.toInt_sub, Int32.toInt_mul, Int32.toInt_neg, Int32.reduceToInt, g_bm, g_bm'] at *); omega)
set_option maxRecDepth 100000 in
theorem g_X12_areBoth_v17 (u : qS) (x : Int32) (y : Int32) (r_8 : Int32) (hI : IM u) (hx : 0 ≤ x ∧ x < u.1 1247) (hy : 0 ≤ y ∧ y < u.1 1247) (hys : u.1 1247 ≤ 120) (c12_1 : (u.2.1 1251 (x : Int32).toNatClampNeg : Int32) < (u.2.1 1251 (y : Int32).toNatClampNeg)) (c43_2 : ¬ (x : Int32) = x) (hb_3 : 0 ≤ (u.2.1 1248 (x : Int32).toNatClampNeg) ∧ (u.2.1 1248 (x : Int32).toNatClampNeg) < u.1 1232) (hs_4 : 0 ≤ u.1 1232 ∧ u.1 1232 ≤ 20) (hb_5 : 0 ≤ (u.2.1 1248 (y : Int32).toNatClampNeg) ∧ (u.2.1 1248 (y : Int32).toNatClampNeg) < u.1 1232) (c130_9 : (u.2.1 1251 (x : Int32).toNatClampNeg : Int32) < (((u.2.1 1251 (x : Int32).toNatClampNeg) + (u.2.1 1252 (x : Int32).toNatClampNeg)) + ((u.1 1242) * r_8))) : (0 : Int32) = 1 ∨ (0 : Int32) = 0 := by
  have hz1247 := hI.1.s1247
  first | omega | ((try simp only [Int32.lt_iff_toInt_lt, Int32.le_iff_toInt_le, ← Int32.toInt_inj, Int32.toInt_add, Int32.toInt_sub, Int32.toInt_mul, Int32.toInt_neg, Int32.reduceToInt, g_bm, g_bm'] at *); omega) | (simp only [Int32.lt_iff_toInt_lt, Int32.le_iff_toInt_le, ← Int32.toInt_inj, Int32.toInt_add, Int32.toInt_sub, Int32.toInt_mul, Int32.toInt_neg, Int32.reduceToInt, g_bm, g_bm'] at *; simp at *; omega) | (simp_all; done)
set_option maxRecDepth 100000 in
theorem g_X12_areBoth_v18 (u : qS) (x : Int32) (y : Int32) (r_8 : Int32) (hI : IM u) (hx : 0 ≤ x ∧ x < u.1 1247) (hy : 0 ≤ y ∧ y < u.1 1247) (hys : u.1 1247 ≤ 120) (c12_1 : (u.2.1 1251 (x : Int32).toNatClampNeg : Int32) < (u.2.1 1251 (y : Int32).toNatClampNeg)) (c43_2 : ¬ (x : Int32) = x) (hb_3 : 0 ≤ (u.2.1 1248 (x : Int32).toNatClampNeg) ∧ (u.2.1 1248 (x : Int32).toNatClampNeg) < u.1 1232) (hs_4 : 0 ≤ u.1 1232 ∧ u.1 1232 ≤ 20) (hb_5 : 0 ≤ (u.2.1 1248 (y : Int32).toNatClampNeg) ∧ (u.2.1 1248 (y : Int32).toNatClampNeg) < u.1 1232) (c130_9 : ¬ (u.2.1 1251 (x : Int32).toNatClampNeg : Int32) < (((u.2.1 1251 (x : Int32).toNatClampNeg) + (u.2.1 1252 (x : Int32).toNatClampNeg)) + ((u.1 1242) * r_8))) : (1 : Int32) = 1 ∨ (1 : Int32) = 0 := by
  have hz1247 := hI.1.s1247
  first | omega | ((try simp only [Int32.lt_iff_toInt_lt, Int32.le_iff_toInt_le, ← Int32.toInt_inj, Int32.toInt_add, Int32.toInt_sub, Int32.toInt_mul, Int32.toInt_neg, Int32.reduceToInt, g_bm, g_bm'] at *); omega) | (simp only [Int32.lt_iff_toInt_lt, Int32.le_iff_toInt_le, ← Int32.toInt_inj, Int32.toInt_add, Int32.toInt_sub, Int32.toInt_mul, Int32.toInt_neg, Int32.reduceToInt, g_bm, g_bm'] at *; simp at *; omega) | (simp_all; done)
set_option maxRecDepth 100000 in
theorem g_X12_areBoth_v19 (u : qS) (x : Int32) (y : Int32) (hI : IM u) (hx : 0 ≤ x ∧ x < u.1 1247) (hy : 0 ≤ y ∧ y < u.1 1247) (hys : u.1 1247 ≤ 120) (c12_1 : (u.2.1 1251 (x : Int32).toNatClampNeg : Int32) < (u.2.1 1251 (y : Int32).toNatClampNeg)) (c43_2 : (x : Int32) = x) : vp_in (x) 120 := by
  have hz1247 := hI.1.s1247
  refine g_in ?_ ?_ <;> ((try simp only [Int32.lt_iff_toInt_lt, Int32.le_iff_toInt_le, ← Int32.toInt_inj, Int32.toInt_add, Int32.toInt_sub, Int32.toInt_mul, Int32.toInt_neg, Int32.reduceToInt, g_bm, g_bm'] at *); omega)
set_option maxRecDepth 100000 in
theorem g_X12_areBoth_v20 (u : qS) (x : Int32) (y : Int32) (hI : IM u) (hx : 0 ≤ x ∧ x < u.1 1247) (hy : 0 ≤ y ∧ y < u.1 1247) (hys : u.1 1247 ≤ 120) (c12_1 : (u.2.1 1251 (x : Int32).toNatClampNeg : Int32) < (u.2.1 1251 (y : Int32).toNatClampNeg)) (c43_2 : (x : Int32) = x) : 0 ≤ x ∧ x < u.1 1247 := by
  have hz1247 := hI.1.s1247
  first | omega | ((try simp only [Int32.lt_iff_toInt_lt, Int32.le_iff_toInt_le, ← Int32.toInt_inj, Int32.toInt_add, Int32.toInt_sub, Int32.toInt_mul, Int32.toInt_neg, Int32.reduceToInt, g_bm, g_bm'] at *); omega) | (simp only [Int32.lt_iff_toInt_lt, Int32.le_iff_toInt_le, ← Int32.toInt_inj, Int32.toInt_add, Int32.toInt_sub, Int32.toInt_mul, Int32.toInt_neg, Int32.reduceToInt, g_bm, g_bm'] at *; simp at *; omega) | (simp_all; done)
set_option maxRecDepth 100000 in
theorem g_X12_areBoth_v21 (u : qS) (x : Int32) (y : Int32) (hI : IM u) (hx : 0 ≤ x ∧ x < u.1 1247) (hy : 0 ≤ y ∧ y < u.1 1247) (hys : u.1 1247 ≤ 120) (c12_1 : (u.2.1 1251 (x : Int32).toNatClampNeg : Int32) < (u.2.1 1251 (y : Int32).toNatClampNeg)) (c43_2 : (x : Int32) = x) (hb_10 : 0 ≤ (u.2.1 1248 (x : Int32).toNatClampNeg) ∧ (u.2.1 1248 (x : Int32).toNatClampNeg) < u.1 1232) (hs_11 : 0 ≤ u.1 1232 ∧ u.1 1232 ≤ 20) : vp_in (u.2.1 1248 (x : Int32).toNatClampNeg) 20 := by
  have hz1247 := hI.1.s1247
  refine g_in ?_ ?_ <;> ((try simp only [Int32.lt_iff_toInt_lt, Int32.le_iff_toInt_le, ← Int32.toInt_inj, Int32.toInt_add, Int32.toInt_sub, Int32.toInt_mul, Int32.toInt_neg, Int32.reduceToInt, g_bm, g_bm'] at *); omega)
set_option maxRecDepth 100000 in
theorem g_X12_areBoth_v22 (u : qS) (x : Int32) (y : Int32) (hI : IM u) (hx : 0 ≤ x ∧ x < u.1 1247) (hy : 0 ≤ y ∧ y < u.1 1247) (hys : u.1 1247 ≤ 120) (c12_1 : (u.2.1 1251 (x : Int32).toNatClampNeg : Int32) < (u.2.1 1251 (y : Int32).toNatClampNeg)) (c43_2 : (x : Int32) = x) (hb_10 : 0 ≤ (u.2.1 1248 (x : Int32).toNatClampNeg) ∧ (u.2.1 1248 (x : Int32).toNatClampNeg) < u.1 1232) (hs_11 : 0 ≤ u.1 1232 ∧ u.1 1232 ≤ 20) : vp_in (x) 120 := by
  have hz1247 := hI.1.s1247
  refine g_in ?_ ?_ <;> ((try simp only [Int32.lt_iff_toInt_lt, Int32.le_iff_toInt_le, ← Int32.toInt_inj, Int32.toInt_add, Int32.toInt_sub, Int32.toInt_mul, Int32.toInt_neg, Int32.reduceToInt, g_bm, g_bm'] at *); omega)
set_option maxRecDepth 100000 in
theorem g_X12_areBoth_v23 (u : qS) (x : Int32) (y : Int32) (hI : IM u) (hx : 0 ≤ x ∧ x < u.1 1247) (hy : 0 ≤ y ∧ y < u.1 1247) (hys : u.1 1247 ≤ 120) (c12_1 : (u.2.1 1251 (x : Int32).toNatClampNeg : Int32) < (u.2.1 1251 (y : Int32).toNatClampNeg)) (c43_2 : (x : Int32) = x) (hb_10 : 0 ≤ (u.2.1 1248 (x : Int32).toNatClampNeg) ∧ (u.2.1 1248 (x : Int32).toNatClampNeg) < u.1 1232) (hs_11 : 0 ≤ u.1 1232 ∧ u.1 1232 ≤ 20) : 0 ≤ x ∧ x < u.1 1247 := by
  have hz1247 := hI.1.s1247
  first | omega | ((try simp only [Int32.lt_iff_toInt_lt, Int32.le_iff_toInt_le, ← Int32.toInt_inj, Int32.toInt_add, Int32.toInt_sub, Int32.toInt_mul, Int32.toInt_neg, Int32.reduceToInt, g_bm, g_bm'] at *); omega) | (simp only [Int32.lt_iff_toInt_lt, Int32.le_iff_toInt_le, ← Int32.toInt_inj, Int32.toInt_add, Int32.toInt_sub, Int32.toInt_mul, Int32.toInt_neg, Int32.reduceToInt, g_bm, g_bm'] at *; simp at *; omega) | (simp_all; done)
set_option maxRecDepth 100000 in
theorem g_X12_areBoth_v24 (u : qS) (x : Int32) (y : Int32) (hI : IM u) (hx : 0 ≤ x ∧ x < u.1 1247) (hy : 0 ≤ y ∧ y < u.1 1247) (hys : u.1 1247 ≤ 120) (c12_1 : (u.2.1 1251 (x : Int32).toNatClampNeg : Int32) < (u.2.1 1251 (y : Int32).toNatClampNeg)) (c43_2 : (x : Int32) = x) (hb_10 : 0 ≤ (u.2.1 1248 (x : Int32).toNatClampNeg) ∧ (u.2.1 1248 (x : Int32).toNatClampNeg) < u.1 1232) (hs_11 : 0 ≤ u.1 1232 ∧ u.1 1232 ≤ 20) : vp_in (u.2.1 1248 (x : Int32).toNatClampNeg) 20 := by
  have hz1247 := hI.1.s1247
  refine g_in ?_ ?_ <;> ((try simp only [Int32.lt_iff_toInt_lt, Int32.le_iff_toInt_le, ← Int32.toInt_inj, Int32.toInt_add, Int32.toInt_sub, Int32.toInt_mul, Int32.toInt_neg, Int32.reduceToInt, g_bm, g_bm'] at *); omega)
set_option maxRecDepth 100000 in
theorem g_X12_areBoth_v25 (u : qS) (x : Int32) (y : Int32) (hI : IM u) (hx : 0 ≤ x ∧ x < u.1 1247) (hy : 0 ≤ y ∧ y < u.1 1247) (hys : u.1 1247 ≤ 120) (c12_1 : (u.2.1 1251 (x : Int32).toNatClampNeg : Int32) < (u.2.1 1251 (y : Int32).toNatClampNeg)) (c43_2 : (x : Int32) = x) (hb_10 : 0 ≤ (u.2.1 1248 (x : Int32).toNatClampNeg) ∧ (u.2.1 1248 (x : Int32).toNatClampNeg) < u.1 1232) (hs_11 : 0 ≤ u.1 1232 ∧ u.1 1232 ≤ 20) : vp_in (y) 120 := by
  have hz1247 := hI.1.s1247
  refine g_in ?_ ?_ <;> ((try simp only [Int32.lt_iff_toInt_lt, Int32.le_iff_toInt_le, ← Int32.toInt_inj, Int32.toInt_add, Int32.toInt_sub, Int32.toInt_mul, Int32.toInt_neg, Int32.reduceToInt, g_bm, g_bm'] at *); omega)
set_option maxRecDepth 100000 in
theorem g_X12_areBoth_v26 (u : qS) (x : Int32) (y : Int32) (hI : IM u) (hx : 0 ≤ x ∧ x < u.1 1247) (hy : 0 ≤ y ∧ y < u.1 1247) (hys : u.1 1247 ≤ 120) (c12_1 : (u.2.1 1251 (x : Int32).toNatClampNeg : Int32) < (u.2.1 1251 (y : Int32).toNatClampNeg)) (c43_2 : (x : Int32) = x) (hb_10 : 0 ≤ (u.2.1 1248 (x : Int32).toNatClampNeg) ∧ (u.2.1 1248 (x : Int32).toNatClampNeg) < u.1 1232) (hs_11 : 0 ≤ u.1 1232 ∧ u.1 1232 ≤ 20) : 0 ≤ y ∧ y < u.1 1247 := by
  have hz1247 := hI.1.s1247
  first | omega | ((try simp only [Int32.lt_iff_toInt_lt, Int32.le_iff_toInt_le, ← Int32.toInt_inj, Int32.toInt_add, Int32.toInt_sub, Int32.toInt_mul, Int32.toInt_neg, Int32.reduceToInt, g_bm, g_bm'] at *); omega) | (simp only [Int32.lt_iff_toInt_lt, Int32.le_iff_toInt_le, ← Int32.toInt_inj, Int32.toInt_add, Int32.toInt_sub, Int32.toInt_mul, Int32.toInt_neg, Int32.reduceToInt, g_bm, g_bm'] at *; simp at *; omega) | (simp_all; done)
set_option maxRecDepth 100000 in
theorem g_X12_areBoth_v27 (u : qS) (x : Int32) (y : Int32) (hI : IM u) (hx : 0 ≤ x ∧ x < u.1 1247) (hy : 0 ≤ y ∧ y < u.1 1247) (hys : u.1 1247 ≤ 120) (c12_1 : (u.2.1 1251 (x : Int32).toNatClampNeg : Int32) < (u.2.1 1251 (y : Int32).toNatClampNeg)) (c43_2 : (x : Int32) = x) (hb_10 : 0 ≤ (u.2.1 1248 (x : Int32).toNatClampNeg) ∧ (u.2.1 1248 (x : Int32).toNatClampNeg) < u.1 1232) (hs_11 : 0 ≤ u.1 1232 ∧ u.1 1232 ≤ 20) (hb_12 : 0 ≤ (u.2.1 1248 (y : Int32).toNatClampNeg) ∧ (u.2.1 1248 (y : Int32).toNatClampNeg) < u.1 1232) : vp_in (u.2.1 1248 (y : Int32).toNatClampNeg) 20 := by
  have hz1247 := hI.1.s1247
  refine g_in ?_ ?_ <;> ((try simp only [Int32.lt_iff_toInt_lt, Int32.le_iff_toInt_le, ← Int32.toInt_inj, Int32.toInt_add, Int32.toInt_sub, Int32.toInt_mul, Int32.toInt_neg, Int32.reduceToInt, g_bm, g_bm'] at *); omega)
set_option maxRecDepth 100000 in
theorem g_X12_areBoth_v28 (u : qS) (x : Int32) (y : Int32) (hI : IM u) (hx : 0 ≤ x ∧ x < u.1 1247) (hy : 0 ≤ y ∧ y < u.1 1247) (hys : u.1 1247 ≤ 120) (c12_1 : (u.2.1 1251 (x : Int32).toNatClampNeg : Int32) < (u.2.1 1251 (y : Int32).toNatClampNeg)) (c43_2 : (x : Int32) = x) (hb_10 : 0 ≤ (u.2.1 1248 (x : Int32).toNatClampNeg) ∧ (u.2.1 1248 (x : Int32).toNatClampNeg) < u.1 1232) (hs_11 : 0 ≤ u.1 1232 ∧ u.1 1232 ≤ 20) (hb_12 : 0 ≤ (u.2.1 1248 (y : Int32).toNatClampNeg) ∧ (u.2.1 1248 (y : Int32).toNatClampNeg) < u.1 1232) : vp_in (y) 120 := by
  have hz1247 := hI.1.s1247
  refine g_in ?_ ?_ <;> ((try simp only [Int32.lt_iff_toInt_lt, Int32.le_iff_toInt_le, ← Int32.toInt_inj, Int32.toInt_add, Int32.toInt_sub, Int32.toInt_mul, Int32.toInt_neg, Int32.reduceToInt, g_bm, g_bm'] at *); omega)
set_option maxRecDepth 100000 in
theorem g_X12_areBoth_v29 (u : qS) (x : Int32) (y : Int32) (hI : IM u) (hx : 0 ≤ x ∧ x < u.1 1247) (hy : 0 ≤ y ∧ y < u.1 1247) (hys : u.1 1247 ≤ 120) (c12_1 : (u.2.1 1251 (x : Int32).toNatClampNeg : Int32) < (u.2.1 1251 (y : Int32).toNatClampNeg)) (c43_2 : (x : Int32) = x) (hb_10 : 0 ≤ (u.2.1 1248 (x : Int32).toNatClampNeg) ∧ (u.2.1 1248 (x : Int32).toNatClampNeg) < u.1 1232) (hs_11 : 0 ≤ u.1 1232 ∧ u.1 1232 ≤ 20) (hb_12 : 0 ≤ (u.2.1 1248 (y : Int32).toNatClampNeg) ∧ (u.2.1 1248 (y : Int32).toNatClampNeg) < u.1 1232) : 0 ≤ y ∧ y < u.1 1247 := by
  have hz1247 := hI.1.s1247
  first | omega | ((try simp only [Int32.lt_iff_toInt_lt, Int32.le_iff_toInt_le, ← Int32.toInt_inj, Int32.toInt_add, Int32.toInt_sub, Int32.toInt_mul, Int32.toInt_neg, Int32.reduceToInt, g_bm, g_bm'] at *); omega) | (simp only [Int32.lt_iff_toInt_lt, Int32.le_iff_toInt_le, ← Int32.toInt_inj, Int32.toInt_add, Int32.toInt_sub, Int32.toInt_mul, Int32.toInt_neg, Int32.reduceToInt, g_bm, g_bm'] at *; simp at *; omega) | (simp_all; done)
set_option maxRecDepth 100000 in
theorem g_X12_areBoth_v30 (u : qS) (x : Int32) (y : Int32) (hI : IM u) (hx : 0 ≤ x ∧ x < u.1 1247) (hy : 0 ≤ y ∧ y < u.1 1247) (hys : u.1 1247 ≤ 120) (c12_1 : (u.2.1 1251 (x : Int32).toNatClampNeg : Int32) < (u.2.1 1251 (y : Int32).toNatClampNeg)) (c43_2 : (x : Int32) = x) (hb_10 : 0 ≤ (u.2.1 1248 (x : Int32).toNatClampNeg) ∧ (u.2.1 1248 (x : Int32).toNatClampNeg) < u.1 1232) (hs_11 : 0 ≤ u.1 1232 ∧ u.1 1232 ≤ 20) (hb_12 : 0 ≤ (u.2.1 1248 (y : Int32).toNatClampNeg) ∧ (u.2.1 1248 (y : Int32).toNatClampNeg) < u.1 1232) : vp_in (u.2.1 1248 (y : Int32).toNatClampNeg) 20 := by
  have hz1247 := hI.1.s1247
  refine g_in ?_ ?_ <;> ((try simp only [Int32.lt_iff_toInt_lt, Int32.le_iff_toInt_le, ← Int32.toInt_inj, Int32.toInt_add, Int32.toInt_sub, Int32.toInt_mul, Int32.toInt_neg, Int32.reduceToInt, g_bm, g_bm'] at *); omega)
set_option maxRecDepth 100000 in
theorem g_X12_areBoth_v31 (u : qS) (x : Int32) (y : Int32) (hI : IM u) (hx : 0 ≤ x ∧ x < u.1 1247) (hy : 0 ≤ y ∧ y < u.1 1247) (hys : u.1 1247 ≤ 120) (c12_1 : (u.2.1 1251 (x : Int32).toNatClampNeg : Int32) < (u.2.1 1251 (y : Int32).toNatClampNeg)) (c43_2 : (x : Int32) = x) (hb_10 : 0 ≤ (u.2.1 1248 (x : Int32).toNatClampNeg) ∧ (u.2.1 1248 (x : Int32).toNatClampNeg) < u.1 1232) (hs_11 : 0 ≤ u.1 1232 ∧ u.1 1232 ≤ 20) (hb_12 : 0 ≤ (u.2.1 1248 (y : Int32).toNatClampNeg) ∧ (u.2.1 1248 (y : Int32).toNatClampNeg) < u.1 1232) : vp_in (y) 120 := by
  have hz1247 := hI.1.s1247
  refine g_in ?_ ?_ <;> ((try simp only [Int32.lt_iff_toInt_lt, Int32.le_iff_toInt_le, ← Int32.toInt_inj, Int32.toInt_add, Int32.toInt_sub, Int32.toInt_mul, Int32.toInt_neg, Int32.reduceToInt, g_bm, g_bm'] at *); omega)
set_option maxRecDepth 100000 in
theorem g_X12_areBoth_v32 (u : qS) (x : Int32) (y : Int32) (hI : IM u) (hx : 0 ≤ x ∧ x < u.1 1247) (hy : 0 ≤ y ∧ y < u.1 1247) (hys : u.1 1247 ≤ 120) (c12_1 : (u.2.1 1251 (x : Int32).toNatClampNeg : Int32) < (u.2.1 1251 (y : Int32).toNatClampNeg)) (c43_2 : (x : Int32) = x) (hb_10 : 0 ≤ (u.2.1 1248 (x : Int32).toNatClampNeg) ∧ (u.2.1 1248 (x : Int32).toNatClampNeg) < u.1 1232) (hs_11 : 0 ≤ u.1 1232 ∧ u.1 1232 ≤ 20) (hb_12 : 0 ≤ (u.2.1 1248 (y : Int32).toNatClampNeg) ∧ (u.2.1 1248 (y : Int32).toNatClampNeg) < u.1 1232) : vp_in (x) 120 := by
  have hz1247 := hI.1.s1247
  refine g_in ?_ ?_ <;> ((try simp only [Int32.lt_iff_toInt_lt, Int32.le_iff_toInt_le, ← Int32.toInt_inj, Int32.toInt_add, Int32.toInt_sub, Int32.toInt_mul, Int32.toInt_neg, Int32.reduceToInt, g_bm, g_bm'] at *); omega)
set_option maxRecDepth 100000 in
theorem g_X12_areBoth_v33 (u : qS) (x : Int32) (y : Int32) (hI : IM u) (hx : 0 ≤ x ∧ x < u.1 1247) (hy : 0 ≤ y ∧ y < u.1 1247) (hys : u.1 1247 ≤ 120) (c12_1 : (u.2.1 1251 (x : Int32).toNatClampNeg : Int32) < (u.2.1 1251 (y : Int32).toNatClampNeg)) (c43_2 : (x : Int32) = x) (hb_10 : 0 ≤ (u.2.1 1248 (x : Int32).toNatClampNeg) ∧ (u.2.1 1248 (x : Int32).toNatClampNeg) < u.1 1232) (hs_11 : 0 ≤ u.1 1232 ∧ u.1 1232 ≤ 20) (hb_12 : 0 ≤ (u.2.1 1248 (y : Int32).toNatClampNeg) ∧ (u.2.1 1248 (y : Int32).toNatClampNeg) < u.1 1232) : vp_in (x) 120 := by
  have hz1247 := hI.1.s1247
  refine g_in ?_ ?_ <;> ((try simp only [Int32.lt_iff_toInt_lt, Int32.le_iff_toInt_le, ← Int32.toInt_inj, Int32.toInt_add, Int32.toInt_sub, Int32.toInt_mul, Int32.toInt_neg, Int32.reduceToInt, g_bm, g_bm'] at *); omega)
set_option maxRecDepth 100000 in
theorem g_X12_areBoth_v34 (u : qS) (x : Int32) (y : Int32) (r_15 : Int32) (hI : IM u) (hx : 0 ≤ x ∧ x < u.1 1247) (hy : 0 ≤ y ∧ y < u.1 1247) (hys : u.1 1247 ≤ 120) (c12_1 : (u.2.1 1251 (x : Int32).toNatClampNeg : Int32) < (u.2.1 1251 (y : Int32).toNatClampNeg)) (c43_2 : (x : Int32) = x) (hb_10 : 0 ≤ (u.2.1 1248 (x : Int32).toNatClampNeg) ∧ (u.2.1 1248 (x : Int32).toNatClampNeg) < u.1 1232) (hs_11 : 0 ≤ u.1 1232 ∧ u.1 1232 ≤ 20) (hb_12 : 0 ≤ (u.2.1 1248 (y : Int32).toNatClampNeg) ∧ (u.2.1 1248 (y : Int32).toNatClampNeg) < u.1 1232) (c130_16 : (u.2.1 1251 (y : Int32).toNatClampNeg : Int32) < (((u.2.1 1251 (x : Int32).toNatClampNeg) + (u.2.1 1252 (x : Int32).toNatClampNeg)) + ((u.1 1242) * r_15))) : (0 : Int32) = 1 ∨ (0 : Int32) = 0 := by
  have hz1247 := hI.1.s1247
  first | omega | ((try simp only [Int32.lt_iff_toInt_lt, Int32.le_iff_toInt_le, ← Int32.toInt_inj, Int32.toInt_add, Int32.toInt_sub, Int32.toInt_mul, Int32.toInt_neg, Int32.reduceToInt, g_bm, g_bm'] at *); omega) | (simp only [Int32.lt_iff_toInt_lt, Int32.le_iff_toInt_le, ← Int32.toInt_inj, Int32.toInt_add, Int32.toInt_sub, Int32.toInt_mul, Int32.toInt_neg, Int32.reduceToInt, g_bm, g_bm'] at *; simp at *; omega) | (simp_all; done)
set_option maxRecDepth 100000 in
theorem g_X12_areBoth_v35 (u : qS) (x : Int32) (y : Int32) (r_15 : Int32) (hI : IM u) (hx : 0 ≤ x ∧ x < u.1 1247) (hy : 0 ≤ y ∧ y < u.1 1247) (hys : u.1 1247 ≤ 120) (c12_1 : (u.2.1 1251 (x : Int32).toNatClampNeg : Int32) < (u.2.1 1251 (y : Int32).toNatClampNeg)) (c43_2 : (x : Int32) = x) (hb_10 : 0 ≤ (u.2.1 1248 (x : Int32).toNatClampNeg) ∧ (u.2.1 1248 (x : Int32).toNatClampNeg) < u.1 1232) (hs_11 : 0 ≤ u.1 1232 ∧ u.1 1232 ≤ 20) (hb_12 : 0 ≤ (u.2.1 1248 (y : Int32).toNatClampNeg) ∧ (u.2.1 1248 (y : Int32).toNatClampNeg) < u.1 1232) (c130_16 : ¬ (u.2.1 1251 (y : Int32).toNatClampNeg : Int32) < (((u.2.1 1251 (x : Int32).toNatClampNeg) + (u.2.1 1252 (x : Int32).toNatClampNeg)) + ((u.1 1242) * r_15))) : (1 : Int32) = 1 ∨ (1 : Int32) = 0 := by
  have hz1247 := hI.1.s1247
  first | omega | ((try simp only [Int32.lt_iff_toInt_lt, Int32.le_iff_toInt_le, ← Int32.toInt_inj, Int32.toInt_add, Int32.toInt_sub, Int32.toInt_mul, Int32.toInt_neg, Int32.reduceToInt, g_bm, g_bm'] at *); omega) | (simp only [Int32.lt_iff_toInt_lt, Int32.le_iff_toInt_le, ← Int32.toInt_inj, Int32.toInt_add, Int32.toInt_sub, Int32.toInt_mul, Int32.toInt_neg, Int32.reduceToInt, g_bm, g_bm'] at *; simp at *; omega) | (simp_all; done)
set_option maxRecDepth 100000 in
theorem g_X12_areBoth_v36 (u : qS) (x : Int32) (y : Int32) (hI : IM u) (hx : 0 ≤ x ∧ x < u.1 1247) (hy : 0 ≤ y ∧ y < u.1 1247) (hys : u.1 1247 ≤ 120) (c12_1 : ¬ (u.2.1 1251 (x : Int32).toNatClampNeg : Int32) < (u.2.1 1251 (y : Int32).toNatClampNeg)) : vp_in (x) 120 := by
  have hz1247 := hI.1.s1247
  refine g_in ?_ ?_ <;> ((try simp only [Int32.lt_iff_toInt_lt, Int32.le_iff_toInt_le, ← Int32.toInt_inj, Int32.toInt_add, Int32.toInt_sub, Int32.toInt_mul, Int32.toInt_neg, Int32.reduceToInt, g_bm, g_bm'] at *); omega)
set_option maxRecDepth 100000 in
theorem g_X12_areBoth_v37 (u : qS) (x : Int32) (y : Int32) (hI : IM u) (hx : 0 ≤ x ∧ x < u.1 1247) (hy : 0 ≤ y ∧ y < u.1 1247) (hys : u.1 1247 ≤ 120) (c12_1 : ¬ (u.2.1 1251 (x : Int32).toNatClampNeg : Int32) < (u.2.1 1251 (y : Int32).toNatClampNeg)) : vp_in (y) 120 := by
  have hz1247 := hI.1.s1247
  refine g_in ?_ ?_ <;> ((try simp only [Int32.lt_iff_toInt_lt, Int32.le_iff_toInt_le, ← Int32.toInt_inj, Int32.toInt_add, Int32.toInt_sub, Int32.toInt_mul, Int32.toInt_neg, Int32.reduceToInt, g_bm, g_bm'] at *); omega)
set_option maxRecDepth 100000 in
theorem g_X12_areBoth_v38 (u : qS) (x : Int32) (y : Int32) (hI : IM u) (hx : 0 ≤ x ∧ x < u.1 1247) (hy : 0 ≤ y ∧ y < u.1 1247) (hys : u.1 1247 ≤ 120) (c12_1 : ¬ (u.2.1 1251 (x : Int32).toNatClampNeg : Int32) < (u.2.1 1251 (y : Int32).toNatClampNeg)) (c27_17 : ¬ (u.2.1 1251 (x : Int32).toNatClampNeg : Int32) = (u.2.1 1251 (y : Int32).toNatClampNeg)) (c43_18 : ¬ (y : Int32) = x) : vp_in (x) 120 := by
  have hz1247 := hI.1.s1247
  refine g_in ?_ ?_ <;> ((try simp only [Int32.lt_iff_toInt_lt, Int32.le_iff_toInt_le, ← Int32.toInt_inj, Int32.toInt_add, Int32.toInt_sub, Int32.toInt_mul, Int32.toInt_neg, Int32.reduceToInt, g_bm, g_bm'] at *); omega)
set_option maxRecDepth 100000 in
theorem g_X12_areBoth_v39 (u : qS) (x : Int32) (y : Int32) (hI : IM u) (hx : 0 ≤ x ∧ x < u.1 1247) (hy : 0 ≤ y ∧ y < u.1 1247) (hys : u.1 1247 ≤ 120) (c12_1 : ¬ (u.2.1 1251 (x : Int32).toNatClampNeg : Int32) < (u.2.1 1251 (y : Int32).toNatClampNeg)) (c27_17 : ¬ (u.2.1 1251 (x : Int32).toNatClampNeg : Int32) = (u.2.1 1251 (y : Int32).toNatClampNeg)) (c43_18 : ¬ (y : Int32) = x) : 0 ≤ x ∧ x < u.1 1247 := by
  have hz1247 := hI.1.s1247
  first | omega | ((try simp only [Int32.lt_iff_toInt_lt, Int32.le_iff_toInt_le, ← Int32.toInt_inj, Int32.toInt_add, Int32.toInt_sub, Int32.toInt_mul, Int32.toInt_neg, Int32.reduceToInt, g_bm, g_bm'] at *); omega) | (simp only [Int32.lt_iff_toInt_lt, Int32.le_iff_toInt_le, ← Int32.toInt_inj, Int32.toInt_add, Int32.toInt_sub, Int32.toInt_mul, Int32.toInt_neg, Int32.reduceToInt, g_bm, g_bm'] at *; simp at *; omega) | (simp_all; done)
set_option maxRecDepth 100000 in
theorem g_X12_areBoth_v40 (u : qS) (x : Int32) (y : Int32) (hI : IM u) (hx : 0 ≤ x ∧ x < u.1 1247) (hy : 0 ≤ y ∧ y < u.1 1247) (hys : u.1 1247 ≤ 120) (c12_1 : ¬ (u.2.1 1251 (x : Int32).toNatClampNeg : Int32) < (u.2.1 1251 (y : Int32).toNatClampNeg)) (c27_17 : ¬ (u.2.1 1251 (x : Int32).toNatClampNeg : Int32) = (u.2.1 1251 (y : Int32).toNatClampNeg)) (c43_18 : ¬ (y : Int32) = x) (hb_19 : 0 ≤ (u.2.1 1248 (x : Int32).toNatClampNeg) ∧ (u.2.1 1248 (x : Int32).toNatClampNeg) < u.1 1232) (hs_20 : 0 ≤ u.1 1232 ∧ u.1 1232 ≤ 20) : vp_in (u.2.1 1248 (x : Int32).toNatClampNeg) 20 := by
  have hz1247 := hI.1.s1247
  refine g_in ?_ ?_ <;> ((try simp only [Int32.lt_iff_toInt_lt, Int32.le_iff_toInt_le, ← Int32.toInt_inj, Int32.toInt_add, Int32.toInt_sub, Int32.toInt_mul, Int32.toInt_neg, Int32.reduceToInt, g_bm, g_bm'] at *); omega)
set_option maxRecDepth 100000 in
theorem g_X12_areBoth_v41 (u : qS) (x : Int32) (y : Int32) (hI : IM u) (hx : 0 ≤ x ∧ x < u.1 1247) (hy : 0 ≤ y ∧ y < u.1 1247) (hys : u.1 1247 ≤ 120) (c12_1 : ¬ (u.2.1 1251 (x : Int32).toNatClampNeg : Int32) < (u.2.1 1251 (y : Int32).toNatClampNeg)) (c27_17 : ¬ (u.2.1 1251 (x : Int32).toNatClampNeg : Int32) = (u.2.1 1251 (y : Int32).toNatClampNeg)) (c43_18 : ¬ (y : Int32) = x) (hb_19 : 0 ≤ (u.2.1 1248 (x : Int32).toNatClampNeg) ∧ (u.2.1 1248 (x : Int32).toNatClampNeg) < u.1 1232) (hs_20 : 0 ≤ u.1 1232 ∧ u.1 1232 ≤ 20) : vp_in (x) 120 := by
  have hz1247 := hI.1.s1247
  refine g_in ?_ ?_ <;> ((try simp only [Int32.lt_iff_toInt_lt, Int32.le_iff_toInt_le, ← Int32.toInt_inj, Int32.toInt_add, Int32.toInt_sub, Int32.toInt_mul, Int32.toInt_neg, Int32.reduceToInt, g_bm, g_bm'] at *); omega)
set_option maxRecDepth 100000 in
theorem g_X12_areBoth_v42 (u : qS) (x : Int32) (y : Int32) (hI : IM u) (hx : 0 ≤ x ∧ x < u.1 1247) (hy : 0 ≤ y ∧ y < u.1 1247) (hys : u.1 1247 ≤ 120) (c12_1 : ¬ (u.2.1 1251 (x : Int32).toNatClampNeg : Int32) < (u.2.1 1251 (y : Int32).toNatClampNeg)) (c27_17 : ¬ (u.2.1 1251 (x : Int32).toNatClampNeg : Int32) = (u.2.1 1251 (y : Int32).toNatClampNeg)) (c43_18 : ¬ (y : Int32) = x) (hb_19 : 0 ≤ (u.2.1 1248 (x : Int32).toNatClampNeg) ∧ (u.2.1 1248 (x : Int32).toNatClampNeg) < u.1 1232) (hs_20 : 0 ≤ u.1 1232 ∧ u.1 1232 ≤ 20) : 0 ≤ x ∧ x < u.1 1247 := by
  have hz1247 := hI.1.s1247
  first | omega | ((try simp only [Int32.lt_iff_toInt_lt, Int32.le_iff_toInt_le, ← Int32.toInt_inj, Int32.toInt_add, Int32.toInt_sub, Int32.toInt_mul, Int32.toInt_neg, Int32.reduceToInt, g_bm, g_bm'] at *); omega) | (simp only [Int32.lt_iff_toInt_lt, Int32.le_iff_toInt_le, ← Int32.toInt_inj, Int32.toInt_add, Int32.toInt_sub, Int32.toInt_mul, Int32.toInt_neg, Int32.reduceToInt, g_bm, g_bm'] at *; simp at *; omega) | (simp_all; done)
set_option maxRecDepth 100000 in
theorem g_X12_areBoth_v43 (u : qS) (x : Int32) (y : Int32) (hI : IM u) (hx : 0 ≤ x ∧ x < u.1 1247) (hy : 0 ≤ y ∧ y < u.1 1247) (hys : u.1 1247 ≤ 120) (c12_1 : ¬ (u.2.1 1251 (x : Int32).toNatClampNeg : Int32) < (u.2.1 1251 (y : Int32).toNatClampNeg)) (c27_17 : ¬ (u.2.1 1251 (x : Int32).toNatClampNeg : Int32) = (u.2.1 1251 (y : Int32).toNatClampNeg)) (c43_18 : ¬ (y : Int32) = x) (hb_19 : 0 ≤ (u.2.1 1248 (x : Int32).toNatClampNeg) ∧ (u.2.1 1248 (x : Int32).toNatClampNeg) < u.1 1232) (hs_20 : 0 ≤ u.1 1232 ∧ u.1 1232 ≤ 20) : vp_in (u.2.1 1248 (x : Int32).toNatClampNeg) 20 := by
  have hz1247 := hI.1.s1247
  refine g_in ?_ ?_ <;> ((try simp only [Int32.lt_iff_toInt_lt, Int32.le_iff_toInt_le, ← Int32.toInt_inj, Int32.toInt_add, Int32.toInt_sub, Int32.toInt_mul, Int32.toInt_neg, Int32.reduceToInt, g_bm, g_bm'] at *); omega)
set_option maxRecDepth 100000 in
theorem g_X12_areBoth_v44 (u : qS) (x : Int32) (y : Int32) (hI : IM u) (hx : 0 ≤ x ∧ x < u.1 1247) (hy : 0 ≤ y ∧ y < u.1 1247) (hys : u.1 1247 ≤ 120) (c12_1 : ¬ (u.2.1 1251 (x : Int32).toNatClampNeg : Int32) < (u.2.1 1251 (y : Int32).toNatClampNeg)) (c27_17 : ¬ (u.2.1 1251 (x : Int32).toNatClampNeg : Int32) = (u.2.1 1251 (y : Int32).toNatClampNeg)) (c43_18 : ¬ (y : Int32) = x) (hb_19 : 0 ≤ (u.2.1 1248 (x : Int32).toNatClampNeg) ∧ (u.2.1 1248 (x : Int32).toNatClampNeg) < u.1 1232) (hs_20 : 0 ≤ u.1 1232 ∧ u.1 1232 ≤ 20) : vp_in (y) 120 := by
  have hz1247 := hI.1.s1247
  refine g_in ?_ ?_ <;> ((try simp only [Int32.lt_iff_toInt_lt, Int32.le_iff_toInt_le, ← Int32.toInt_inj, Int32.toInt_add, Int32.toInt_sub, Int32.toInt_mul, Int32.toInt_neg, Int32.reduceToInt, g_bm, g_bm'] at *); omega)
set_option maxRecDepth 100000 in
theorem g_X12_areBoth_v45 (u : qS) (x : Int32) (y : Int32) (hI : IM u) (hx : 0 ≤ x ∧ x < u.1 1247) (hy : 0 ≤ y ∧ y < u.1 1247) (hys : u.1 1247 ≤ 120) (c12_1 : ¬ (u.2.1 1251 (x : Int32).toNatClampNeg : Int32) < (u.2.1 1251 (y : Int32).toNatClampNeg)) (c27_17 : ¬ (u.2.1 1251 (x : Int32).toNatClampNeg : Int32) = (u.2.1 1251 (y : Int32).toNatClampNeg)) (c43_18 : ¬ (y : Int32) = x) (hb_19 : 0 ≤ (u.2.1 1248 (x : Int32).toNatClampNeg) ∧ (u.2.1 1248 (x : Int32).toNatClampNeg) < u.1 1232) (hs_20 : 0 ≤ u.1 1232 ∧ u.1 1232 ≤ 20) : 0 ≤ y ∧ y < u.1 1247 := by
  have hz1247 := hI.1.s1247
  first | omega | ((try simp only [Int32.lt_iff_toInt_lt, Int32.le_iff_toInt_le, ← Int32.toInt_inj, Int32.toInt_add, Int32.toInt_sub, Int32.toInt_mul, Int32.toInt_neg, Int32.reduceToInt, g_bm, g_bm'] at *); omega) | (simp only [Int32.lt_iff_toInt_lt, Int32.le_iff_toInt_le, ← Int32.toInt_inj, Int32.toInt_add, Int32.toInt_sub, Int32.toInt_mul, Int32.toInt_neg, Int32.reduceToInt, g_bm, g_bm'] at *; simp at *; omega) | (simp_all; done)
set_option maxRecDepth 100000 in
theorem g_X12_areBoth_v46 (u : qS) (x : Int32) (y : Int32) (hI : IM u) (hx : 0 ≤ x ∧ x < u.1 1247) (hy : 0 ≤ y ∧ y < u.1 1247) (hys : u.1 1247 ≤ 120) (c12_1 : ¬ (u.2.1 1251 (x : Int32).toNatClampNeg : Int32) < (u.2.1 1251 (y : Int32).toNatClampNeg)) (c27_17 : ¬ (u.2.1 1251 (x : Int32).toNatClampNeg : Int32) = (u.2.1 1251 (y : Int32).toNatClampNeg)) (c43_18 : ¬ (y : Int32) = x) (hb_19 : 0 ≤ (u.2.1 1248 (x : Int32).toNatClampNeg) ∧ (u.2.1 1248 (x : Int32).toNatClampNeg) < u.1 1232) (hs_20 : 0 ≤ u.1 1232 ∧ u.1 1232 ≤ 20) (hb_21 : 0 ≤ (u.2.1 1248 (y : Int32).toNatClampNeg) ∧ (u.2.1 1248 (y : Int32).toNatClampNeg) < u.1 1232) : vp_in (u.2.1 1248 (y : Int32).toNatClampNeg) 20 := by
  have hz1247 := hI.1.s1247
  refine g_in ?_ ?_ <;> ((try simp only [Int32.lt_iff_toInt_lt, Int32.le_iff_toInt_le, ← Int32.toInt_inj, Int32.toInt_add, Int32.toInt_sub, Int32.toInt_mul, Int32.toInt_neg, Int32.reduceToInt, g_bm, g_bm'] at *); omega)
set_option maxRecDepth 100000 in
theorem g_X12_areBoth_v47 (u : qS) (x : Int32) (y : Int32) (hI : IM u) (hx : 0 ≤ x ∧ x < u.1 1247) (hy : 0 ≤ y ∧ y < u.1 1247) (hys : u.1 1247 ≤ 120) (c12_1 : ¬ (u.2.1 1251 (x : Int32).toNatClampNeg : Int32) < (u.2.1 1251 (y : Int32).toNatClampNeg)) (c27_17 : ¬ (u.2.1 1251 (x : Int32).toNatClampNeg : Int32) = (u.2.1 1251 (y : Int32).toNatClampNeg)) (c43_18 : ¬ (y : Int32) = x) (hb_19 : 0 ≤ (u.2.1 1248 (x : Int32).toNatClampNeg) ∧ (u.2.1 1248 (x : Int32).toNatClampNeg) < u.1 1232) (hs_20 : 0 ≤ u.1 1232 ∧ u.1 1232 ≤ 20) (hb_21 : 0 ≤ (u.2.1 1248 (y : Int32).toNatClampNeg) ∧ (u.2.1 1248 (y : Int32).toNatClampNeg) < u.1 1232) : vp_in (y) 120 := by
  have hz1247 := hI.1.s1247
  refine g_in ?_ ?_ <;> ((try simp only [Int32.lt_iff_toInt_lt, Int32.le_iff_toInt_le, ← Int32.toInt_inj, Int32.toInt_add, Int32.toInt_sub, Int32.toInt_mul, Int32.toInt_neg, Int32.reduceToInt, g_bm, g_bm'] at *); omega)
set_option maxRecDepth 100000 in
theorem g_X12_areBoth_v48 (u : qS) (x : Int32) (y : Int32) (hI : IM u) (hx : 0 ≤ x ∧ x < u.1 1247) (hy : 0 ≤ y ∧ y < u.1 1247) (hys : u.1 1247 ≤ 120) (c12_1 : ¬ (u.2.1 1251 (x : Int32).toNatClampNeg : Int32) < (u.2.1 1251 (y : Int32).toNatClampNeg)) (c27_17 : ¬ (u.2.1 1251 (x : Int32).toNatClampNeg : Int32) = (u.2.1 1251 (y : Int32).toNatClampNeg)) (c43_18 : ¬ (y : Int32) = x) (hb_19 : 0 ≤ (u.2.1 1248 (x : Int32).toNatClampNeg) ∧ (u.2.1 1248 (x : Int32).toNatClampNeg) < u.1 1232) (hs_20 : 0 ≤ u.1 1232 ∧ u.1 1232 ≤ 20) (hb_21 : 0 ≤ (u.2.1 1248 (y : Int32).toNatClampNeg) ∧ (u.2.1 1248 (y : Int32).toNatClampNeg) < u.1 1232) : 0 ≤ y ∧ y < u.1 1247 := by
  have hz1247 := hI.1.s1247
  first | omega | ((try simp only [Int32.lt_iff_toInt_lt, Int32.le_iff_toInt_le, ← Int32.toInt_inj, Int32.toInt_add, Int32.toInt_sub, Int32.toInt_mul, Int32.toInt_neg, Int32.reduceToInt, g_bm, g_bm'] at *); omega) | (simp only [Int32.lt_iff_toInt_lt, Int32.le_iff_toInt_le, ← Int32.toInt_inj, Int32.toInt_add, Int32.toInt_sub, Int32.toInt_mul, Int32.toInt_neg, Int32.reduceToInt, g_bm, g_bm'] at *; simp at *; omega) | (simp_all; done)
set_option maxRecDepth 100000 in
theorem g_X12_areBoth_v49 (u : qS) (x : Int32) (y : Int32) (hI : IM u) (hx : 0 ≤ x ∧ x < u.1 1247) (hy : 0 ≤ y ∧ y < u.1 1247) (hys : u.1 1247 ≤ 120) (c12_1 : ¬ (u.2.1 1251 (x : Int32).toNatClampNeg : Int32) < (u.2.1 1251 (y : Int32).toNatClampNeg)) (c27_17 : ¬ (u.2.1 1251 (x : Int32).toNatClampNeg : Int32) = (u.2.1 1251 (y : Int32).toNatClampNeg)) (c43_18 : ¬ (y : Int32) = x) (hb_19 : 0 ≤ (u.2.1 1248 (x : Int32).toNatClampNeg) ∧ (u.2.1 1248 (x : Int32).toNatClampNeg) < u.1 1232) (hs_20 : 0 ≤ u.1 1232 ∧ u.1 1232 ≤ 20) (hb_21 : 0 ≤ (u.2.1 1248 (y : Int32).toNatClampNeg) ∧ (u.2.1 1248 (y : Int32).toNatClampNeg) < u.1 1232) : vp_in (u.2.1 1248 (y : Int32).toNatClampNeg) 20 := by
  have hz1247 := hI.1.s1247
  refine g_in ?_ ?_ <;> ((try simp only [Int32.lt_iff_toInt_lt, Int32.le_iff_toInt_le, ← Int32.toInt_inj, Int32.toInt_add, Int32.toInt_sub, Int32.toInt_mul, Int32.toInt_neg, Int32.reduceToInt, g_bm, g_bm'] at *); omega)
set_option maxRecDepth 100000 in
theorem g_X12_areBoth_v50 (u : qS) (x : Int32) (y : Int32) (hI : IM u) (hx : 0 ≤ x ∧ x < u.1 1247) (hy : 0 ≤ y ∧ y < u.1 1247) (hys : u.1 1247 ≤ 120) (c12_1 : ¬ (u.2.1 1251 (x : Int32).toNatClampNeg : Int32) < (u.2.1 1251 (y : Int32).toNatClampNeg)) (c27_17 : ¬ (u.2.1 1251 (x : Int32).toNatClampNeg : Int32) = (u.2.1 1251 (y : Int32).toNatClampNeg)) (c43_18 : ¬ (y : Int32) = x) (hb_19 : 0 ≤ (u.2.1 1248 (x : Int32).toNatClampNeg) ∧ (u.2.1 1248 (x : Int32).toNatClampNeg) < u.1 1232) (hs_20 : 0 ≤ u.1 1232 ∧ u.1 1232 ≤ 20) (hb_21 : 0 ≤ (u.2.1 1248 (y : Int32).toNatClampNeg) ∧ (u.2.1 1248 (y : Int32).toNatClampNeg) < u.1 1232) : vp_in (x) 120 := by
  have hz1247 := hI.1.s1247
  refine g_in ?_ ?_ <;> ((try simp only [Int32.lt_iff_toInt_lt, Int32.le_iff_toInt_le, ← Int32.toInt_inj, Int32.toInt_add, Int32.toInt_sub, Int32.toInt_mul, Int32.toInt_neg, Int32.reduceToInt, g_bm, g_bm'] at *); omega)
set_option maxRecDepth 100000 in
theorem g_X12_areBoth_v51 (u : qS) (x : Int32) (y : Int32) (hI : IM u) (hx : 0 ≤ x ∧ x < u.1 1247) (hy : 0 ≤ y ∧ y < u.1 1247) (hys : u.1 1247 ≤ 120) (c12_1 : ¬ (u.2.1 1251 (x : Int32).toNatClampNeg : Int32) < (u.2.1 1251 (y : Int32).toNatClampNeg)) (c27_17 : ¬ (u.2.1 1251 (x : Int32).toNatClampNeg : Int32) = (u.2.1 1251 (y : Int32).toNatClampNeg)) (c43_18 : ¬ (y : Int32) = x) (hb_19 : 0 ≤ (u.2.1 1248 (x : Int32).toNatClampNeg) ∧ (u.2.1 1248 (x : Int32).toNatClampNeg) < u.1 1232) (hs_20 : 0 ≤ u.1 1232 ∧ u.1 1232 ≤ 20) (hb_21 : 0 ≤ (u.2.1 1248 (y : Int32).toNatClampNeg) ∧ (u.2.1 1248 (y : Int32).toNatClampNeg) < u.1 1232) : vp_in (y) 120 := by
  have hz1247 := hI.1.s1247
  refine g_in ?_ ?_ <;> ((try simp only [Int32.lt_iff_toInt_lt, Int32.le_iff_toInt_le, ← Int32.toInt_inj, Int32.toInt_add, Int32.toInt_sub, Int32.toInt_mul, Int32.toInt_neg, Int32.reduceToInt, g_bm, g_bm'] at *); omega)
set_option maxRecDepth 100000 in
theorem g_X12_areBoth_v52 (u : qS) (x : Int32) (y : Int32) (hI : IM u) (hx : 0 ≤ x ∧ x < u.1 1247) (hy : 0 ≤ y ∧ y < u.1 1247) (hys : u.1 1247 ≤ 120) (c12_1 : ¬ (u.2.1 1251 (x : Int32).toNatClampNeg : Int32) < (u.2.1 1251 (y : Int32).toNatClampNeg)) (c27_17 : ¬ (u.2.1 1251 (x : Int32).toNatClampNeg : Int32) = (u.2.1 1251 (y : Int32).toNatClampNeg)) (c43_18 : ¬ (y : Int32) = x) (hb_19 : 0 ≤ (u.2.1 1248 (x : Int32).toNatClampNeg) ∧ (u.2.1 1248 (x : Int32).toNatClampNeg) < u.1 1232) (hs_20 : 0 ≤ u.1 1232 ∧ u.1 1232 ≤ 20) (hb_21 : 0 ≤ (u.2.1 1248 (y : Int32).toNatClampNeg) ∧ (u.2.1 1248 (y : Int32).toNatClampNeg) < u.1 1232) : vp_in (y) 120 := by
  have hz1247 := hI.1.s1247
  refine g_in ?_ ?_ <;> ((try simp only [Int32.lt_iff_toInt_lt, Int32.le_iff_toInt_le, ← Int32.toInt_inj, Int32.toInt_add, Int32.toInt_sub, Int32.toInt_mul, Int32.toInt_neg, Int32.reduceToInt, g_bm, g_bm'] at *); omega)
set_option maxRecDepth 100000 in
theorem g_X12_areBoth_v53 (u : qS) (x : Int32) (y : Int32) (r_24 : Int32) (hI : IM u) (hx : 0 ≤ x ∧ x < u.1 1247) (hy : 0 ≤ y ∧ y < u.1 1247) (hys : u.1 1247 ≤ 120) (c12_1 : ¬ (u.2.1 1251 (x : Int32).toNatClampNeg : Int32) < (u.2.1 1251 (y : Int32).toNatClampNeg)) (c27_17 : ¬ (u.2.1 1251 (x : Int32).toNatClampNeg : Int32) = (u.2.1 1251 (y : Int32).toNatClampNeg)) (c43_18 : ¬ (y : Int32) = x) (hb_19 : 0 ≤ (u.2.1 1248 (x : Int32).toNatClampNeg) ∧ (u.2.1 1248 (x : Int32).toNatClampNeg) < u.1 1232) (hs_20 : 0 ≤ u.1 1232 ∧ u.1 1232 ≤ 20) (hb_21 : 0 ≤ (u.2.1 1248 (y : Int32).toNatClampNeg) ∧ (u.2.1 1248 (y : Int32).toNatClampNeg) < u.1 1232) (c130_25 : (u.2.1 1251 (x : Int32).toNatClampNeg : Int32) < (((u.2.1 1251 (y : Int32).toNatClampNeg) + (u.2.1 1252 (y : Int32).toNatClampNeg)) + ((u.1 1242) * r_24))) : (0 : Int32) = 1 ∨ (0 : Int32) = 0 := by
  have hz1247 := hI.1.s1247
  first | omega | ((try simp only [Int32.lt_iff_toInt_lt, Int32.le_iff_toInt_le, ← Int32.toInt_inj, Int32.toInt_add, Int32.toInt_sub, Int32.toInt_mul, Int32.toInt_neg, Int32.reduceToInt, g_bm, g_bm'] at *); omega) | (simp only [Int32.lt_iff_toInt_lt, Int32.le_iff_toInt_le, ← Int32.toInt_inj, Int32.toInt_add, Int32.toInt_sub, Int32.toInt_mul, Int32.toInt_neg, Int32.reduceToInt, g_bm, g_bm'] at *; simp at *; omega) | (simp_all; done)
set_option maxRecDepth 100000 in
theorem g_X12_areBoth_v54 (u : qS) (x : Int32) (y : Int32) (r_24 : Int32) (hI : IM u) (hx : 0 ≤ x ∧ x < u.1 1247) (hy : 0 ≤ y ∧ y < u.1 1247) (hys : u.1 1247 ≤ 120) (c12_1 : ¬ (u.2.1 1251 (x : Int32).toNatClampNeg : Int32) < (u.2.1 1251 (y : Int32).toNatClampNeg)) (c27_17 : ¬ (u.2.1 1251 (x : Int32).toNatClampNeg : Int32) = (u.2.1 1251 (y : Int32).toNatClampNeg)) (c43_18 : ¬ (y : Int32) = x) (hb_19 : 0 ≤ (u.2.1 1248 (x : Int32).toNatClampNeg) ∧ (u.2.1 1248 (x : Int32).toNatClampNeg) < u.1 1232) (hs_20 : 0 ≤ u.1 1232 ∧ u.1 1232 ≤ 20) (hb_21 : 0 ≤ (u.2.1 1248 (y : Int32).toNatClampNeg) ∧ (u.2.1 1248 (y : Int32).toNatClampNeg) < u.1 1232) (c130_25 : ¬ (u.2.1 1251 (x : Int32).toNatClampNeg : Int32) < (((u.2.1 1251 (y : Int32).toNatClampNeg) + (u.2.1 1252 (y : Int32).toNatClampNeg)) + ((u.1 1242) * r_24))) : (1 : Int32) = 1 ∨ (1 : Int32) = 0 := by
  have hz1247 := hI.1.s1247
  first | omega | ((try simp only [Int32.lt_iff_toInt_lt, Int32.le_iff_toInt_le, ← Int32.toInt_inj, Int32.toInt_add, Int32.toInt_sub, Int32.toInt_mul, Int32.toInt_neg, Int32.reduceToInt, g_bm, g_bm'] at *); omega) | (simp only [Int32.lt_iff_toInt_lt, Int32.le_iff_toInt_le, ← Int32.toInt_inj, Int32.toInt_add, Int32.toInt_sub, Int32.toInt_mul, Int32.toInt_neg, Int32.reduceToInt, g_bm, g_bm'] at *; simp at *; omega) | (simp_all; done)
set_option maxRecDepth 100000 in
theorem g_X12_areBoth_v55 (u : qS) (x : Int32) (y : Int32) (hI : IM u) (hx : 0 ≤ x ∧ x < u.1 1247) (hy : 0 ≤ y ∧ y < u.1 1247) (hys : u.1 1247 ≤ 120) (c12_1 : ¬ (u.2.1 1251 (x : Int32).toNatClampNeg : Int32) < (u.2.1 1251 (y : Int32).toNatClampNeg)) (c27_17 : ¬ (u.2.1 1251 (x : Int32).toNatClampNeg : Int32) = (u.2.1 1251 (y : Int32).toNatClampNeg)) (c43_18 : (y : Int32) = x) : vp_in (x) 120 := by
  have hz1247 := hI.1.s1247
  refine g_in ?_ ?_ <;> ((try simp only [Int32.lt_iff_toInt_lt, Int32.le_iff_toInt_le, ← Int32.toInt_inj, Int32.toInt_add, Int32.toInt_sub, Int32.toInt_mul, Int32.toInt_neg, Int32.reduceToInt, g_bm, g_bm'] at *); omega)
set_option maxRecDepth 100000 in
theorem g_X12_areBoth_v56 (u : qS) (x : Int32) (y : Int32) (hI : IM u) (hx : 0 ≤ x ∧ x < u.1 1247) (hy : 0 ≤ y ∧ y < u.1 1247) (hys : u.1 1247 ≤ 120) (c12_1 : ¬ (u.2.1 1251 (x : Int32).toNatClampNeg : Int32) < (u.2.1 1251 (y : Int32).toNatClampNeg)) (c27_17 : ¬ (u.2.1 1251 (x : Int32).toNatClampNeg : Int32) = (u.2.1 1251 (y : Int32).toNatClampNeg)) (c43_18 : (y : Int32) = x) : 0 ≤ x ∧ x < u.1 1247 := by
  have hz1247 := hI.1.s1247
  first | omega | ((try simp only [Int32.lt_iff_toInt_lt, Int32.le_iff_toInt_le, ← Int32.toInt_inj, Int32.toInt_add, Int32.toInt_sub, Int32.toInt_mul, Int32.toInt_neg, Int32.reduceToInt, g_bm, g_bm'] at *); omega) | (simp only [Int32.lt_iff_toInt_lt, Int32.le_iff_toInt_le, ← Int32.toInt_inj, Int32.toInt_add, Int32.toInt_sub, Int32.toInt_mul, Int32.toInt_neg, Int32.reduceToInt, g_bm, g_bm'] at *; simp at *; omega) | (simp_all; done)
set_option maxRecDepth 100000 in
theorem g_X12_areBoth_v57 (u : qS) (x : Int32) (y : Int32) (hI : IM u) (hx : 0 ≤ x ∧ x < u.1 1247) (hy : 0 ≤ y ∧ y < u.1 1247) (hys : u.1 1247 ≤ 120) (c12_1 : ¬ (u.2.1 1251 (x : Int32).toNatClampNeg : Int32) < (u.2.1 1251 (y : Int32).toNatClampNeg)) (c27_17 : ¬ (u.2.1 1251 (x : Int32).toNatClampNeg : Int32) = (u.2.1 1251 (y : Int32).toNatClampNeg)) (c43_18 : (y : Int32) = x) (hb_26 : 0 ≤ (u.2.1 1248 (x : Int32).toNatClampNeg) ∧ (u.2.1 1248 (x : Int32).toNatClampNeg) < u.1 1232) (hs_27 : 0 ≤ u.1 1232 ∧ u.1 1232 ≤ 20) : vp_in (u.2.1 1248 (x : Int32).toNatClampNeg) 20 := by
  have hz1247 := hI.1.s1247
  refine g_in ?_ ?_ <;> ((try simp only [Int32.lt_iff_toInt_lt, Int32.le_iff_toInt_le, ← Int32.toInt_inj, Int32.toInt_add, Int32.toInt_sub, Int32.toInt_mul, Int32.toInt_neg, Int32.reduceToInt, g_bm, g_bm'] at *); omega)
set_option maxRecDepth 100000 in
theorem g_X12_areBoth_v58 (u : qS) (x : Int32) (y : Int32) (hI : IM u) (hx : 0 ≤ x ∧ x < u.1 1247) (hy : 0 ≤ y ∧ y < u.1 1247) (hys : u.1 1247 ≤ 120) (c12_1 : ¬ (u.2.1 1251 (x : Int32).toNatClampNeg : Int32) < (u.2.1 1251 (y : Int32).toNatClampNeg)) (c27_17 : ¬ (u.2.1 1251 (x : Int32).toNatClampNeg : Int32) = (u.2.1 1251 (y : Int32).toNatClampNeg)) (c43_18 : (y : Int32) = x) (hb_26 : 0 ≤ (u.2.1 1248 (x : Int32).toNatClampNeg) ∧ (u.2.1 1248 (x : Int32).toNatClampNeg) < u.1 1232) (hs_27 : 0 ≤ u.1 1232 ∧ u.1 1232 ≤ 20) : vp_in (x) 120 := by
  have hz1247 := hI.1.s1247
  refine g_in ?_ ?_ <;> ((try simp only [Int32.lt_iff_toInt_lt, Int32.le_iff_toInt_le, ← Int32.toInt_inj, Int32.toInt_add, Int32.toInt_sub, Int32.toInt_mul, Int32.toInt_neg, Int32.reduceToInt, g_bm, g_bm'] at *); omega)
set_option maxRecDepth 100000 in
theorem g_X12_areBoth_v59 (u : qS) (x : Int32) (y : Int32) (hI : IM u) (hx : 0 ≤ x ∧ x < u.1 1247) (hy : 0 ≤ y ∧ y < u.1 1247) (hys : u.1 1247 ≤ 120) (c12_1 : ¬ (u.2.1 1251 (x : Int32).toNatClampNeg : Int32) < (u.2.1 1251 (y : Int32).toNatClampNeg)) (c27_17 : ¬ (u.2.1 1251 (x : Int32).toNatClampNeg : Int32) = (u.2.1 1251 (y : Int32).toNatClampNeg)) (c43_18 : (y : Int32) = x) (hb_26 : 0 ≤ (u.2.1 1248 (x : Int32).toNatClampNeg) ∧ (u.2.1 1248 (x : Int32).toNatClampNeg) < u.1 1232) (hs_27 : 0 ≤ u.1 1232 ∧ u.1 1232 ≤ 20) : 0 ≤ x ∧ x < u.1 1247 := by
  have hz1247 := hI.1.s1247
  first | omega | ((try simp only [Int32.lt_iff_toInt_lt, Int32.le_iff_toInt_le, ← Int32.toInt_inj, Int32.toInt_add, Int32.toInt_sub, Int32.toInt_mul, Int32.toInt_neg, Int32.reduceToInt, g_bm, g_bm'] at *); omega) | (simp only [Int32.lt_iff_toInt_lt, Int32.le_iff_toInt_le, ← Int32.toInt_inj, Int32.toInt_add, Int32.toInt_sub, Int32.toInt_mul, Int32.toInt_neg, Int32.reduceToInt, g_bm, g_bm'] at *; simp at *; omega) | (simp_all; done)
set_option maxRecDepth 100000 in
theorem g_X12_areBoth_v60 (u : qS) (x : Int32) (y : Int32) (hI : IM u) (hx : 0 ≤ x ∧ x < u.1 1247) (hy : 0 ≤ y ∧ y < u.1 1247) (hys : u.1 1247 ≤ 120) (c12_1 : ¬ (u.2.1 1251 (x : Int32).toNatClampNeg : Int32) < (u.2.1 1251 (y : Int32).toNatClampNeg)) (c27_17 : ¬ (u.2.1 1251 (x : Int32).toNatClampNeg : Int32) = (u.2.1 1251 (y : Int32).toNatClampNeg)) (c43_18 : (y : Int32) = x) (hb_26 : 0 ≤ (u.2.1 1248 (x : Int32).toNatClampNeg) ∧ (u.2.1 1248 (x : Int32).toNatClampNeg) < u.1 1232) (hs_27 : 0 ≤ u.1 1232 ∧ u.1 1232 ≤ 20) : vp_in (u.2.1 1248 (x : Int32).toNatClampNeg) 20 := by
  have hz1247 := hI.1.s1247
  refine g_in ?_ ?_ <;> ((try simp only [Int32.lt_iff_toInt_lt, Int32.le_iff_toInt_le, ← Int32.toInt_inj, Int32.toInt_add, Int32.toInt_sub, Int32.toInt_mul, Int32.toInt_neg, Int32.reduceToInt, g_bm, g_bm'] at *); omega)
set_option maxRecDepth 100000 in
theorem g_X12_areBoth_v61 (u : qS) (x : Int32) (y : Int32) (hI : IM u) (hx : 0 ≤ x ∧ x < u.1 1247) (hy : 0 ≤ y ∧ y < u.1 1247) (hys : u.1 1247 ≤ 120) (c12_1 : ¬ (u.2.1 1251 (x : Int32).toNatClampNeg : Int32) < (u.2.1 1251 (y : Int32).toNatClampNeg)) (c27_17 : ¬ (u.2.1 1251 (x : Int32).toNatClampNeg : Int32) = (u.2.1 1251 (y : Int32).toNatClampNeg)) (c43_18 : (y : Int32) = x) (hb_26 : 0 ≤ (u.2.1 1248 (x : Int32).toNatClampNeg) ∧ (u.2.1 1248 (x : Int32).toNatClampNeg) < u.1 1232) (hs_27 : 0 ≤ u.1 1232 ∧ u.1 1232 ≤ 20) : vp_in (y) 120 := by
  have hz1247 := hI.1.s1247
  refine g_in ?_ ?_ <;> ((try simp only [Int32.lt_iff_toInt_lt, Int32.le_iff_toInt_le, ← Int32.toInt_inj, Int32.toInt_add, Int32.toInt_sub, Int32.toInt_mul, Int32.toInt_neg, Int32.reduceToInt, g_bm, g_bm'] at *); omega)
set_option maxRecDepth 100000 in
theorem g_X12_areBoth_v62 (u : qS) (x : Int32) (y : Int32) (hI : IM u) (hx : 0 ≤ x ∧ x < u.1 1247) (hy : 0 ≤ y ∧ y < u.1 1247) (hys : u.1 1247 ≤ 120) (c12_1 : ¬ (u.2.1 1251 (x : Int32).toNatClampNeg : Int32) < (u.2.1 1251 (y : Int32).toNatClampNeg)) (c27_17 : ¬ (u.2.1 1251 (x : Int32).toNatClampNeg : Int32) = (u.2.1 1251 (y : Int32).toNatClampNeg)) (c43_18 : (y : Int32) = x) (hb_26 : 0 ≤ (u.2.1 1248 (x : Int32).toNatClampNeg) ∧ (u.2.1 1248 (x : Int32).toNatClampNeg) < u.1 1232) (hs_27 : 0 ≤ u.1 1232 ∧ u.1 1232 ≤ 20) : 0 ≤ y ∧ y < u.1 1247 := by
  have hz1247 := hI.1.s1247
  first | omega | ((try simp only [Int32.lt_iff_toInt_lt, Int32.le_iff_toInt_le, ← Int32.toInt_inj, Int32.toInt_add, Int32.toInt_sub, Int32.toInt_mul, Int32.toInt_neg, Int32.reduceToInt, g_bm, g_bm'] at *); omega) | (simp only [Int32.lt_iff_toInt_lt, Int32.le_iff_toInt_le, ← Int32.toInt_inj, Int32.toInt_add, Int32.toInt_sub, Int32.toInt_mul, Int32.toInt_neg, Int32.reduceToInt, g_bm, g_bm'] at *; simp at *; omega) | (simp_all; done)
set_option maxRecDepth 100000 in
theorem g_X12_areBoth_v63 (u : qS) (x : Int32) (y : Int32) (hI : IM u) (hx : 0 ≤ x ∧ x < u.1 1247) (hy : 0 ≤ y ∧ y < u.1 1247) (hys : u.1 1247 ≤ 120) (c12_1 : ¬ (u.2.1 1251 (x : Int32).toNatClampNeg : Int32) < (u.2.1 1251 (y : Int32).toNatClampNeg)) (c27_17 : ¬ (u.2.1 1251 (x : Int32).toNatClampNeg : Int32) = (u.2.1 1251 (y : Int32).toNatClampNeg)) (c43_18 : (y : Int32) = x) (hb_26 : 0 ≤ (u.2.1 1248 (x : Int32).toNatClampNeg) ∧ (u.2.1 1248 (x : Int32).toNatClampNeg) < u.1 1232) (hs_27 : 0 ≤ u.1 1232 ∧ u.1 1232 ≤ 20) (hb_28 : 0 ≤ (u.2.1 1248 (y : Int32).toNatClampNeg) ∧ (u.2.1 1248 (y : Int32).toNatClampNeg) < u.1 1232) : vp_in (u.2.1 1248 (y : Int32).toNatClampNeg) 20 := by
  have hz1247 := hI.1.s1247
  refine g_in ?_ ?_ <;> ((try simp only [Int32.lt_iff_toInt_lt, Int32.le_iff_toInt_le, ← Int32.toInt_inj, Int32.toInt_add, Int32.toInt_sub, Int32.toInt_mul, Int32.toInt_neg, Int32.reduceToInt, g_bm, g_bm'] at *); omega)
set_option maxRecDepth 100000 in
theorem g_X12_areBoth_v64 (u : qS) (x : Int32) (y : Int32) (hI : IM u) (hx : 0 ≤ x ∧ x < u.1 1247) (hy : 0 ≤ y ∧ y < u.1 1247) (hys : u.1 1247 ≤ 120) (c12_1 : ¬ (u.2.1 1251 (x : Int32).toNatClampNeg : Int32) < (u.2.1 1251 (y : Int32).toNatClampNeg)) (c27_17 : ¬ (u.2.1 1251 (x : Int32).toNatClampNeg : Int32) = (u.2.1 1251 (y : Int32).toNatClampNeg)) (c43_18 : (y : Int32) = x) (hb_26 : 0 ≤ (u.2.1 1248 (x : Int32).toNatClampNeg) ∧ (u.2.1 1248 (x : Int32).toNatClampNeg) < u.1 1232) (hs_27 : 0 ≤ u.1 1232 ∧ u.1 1232 ≤ 20) (hb_28 : 0 ≤ (u.2.1 1248 (y : Int32).toNatClampNeg) ∧ (u.2.1 1248 (y : Int32).toNatClampNeg) < u.1 1232) : vp_in (y) 120 := by
  have hz1247 := hI.1.s1247
  refine g_in ?_ ?_ <;> ((try simp only [Int32.lt_iff_toInt_lt, Int32.le_iff_toInt_le, ← Int32.toInt_inj, Int32.toInt_add, Int32.toInt_sub, Int32.toInt_mul, Int32.toInt_neg, Int32.reduceToInt, g_bm, g_bm'] at *); omega)
set_option maxRecDepth 100000 in
theorem g_X12_areBoth_v65 (u : qS) (x : Int32) (y : Int32) (hI : IM u) (hx : 0 ≤ x ∧ x < u.1 1247) (hy : 0 ≤ y ∧ y < u.1 1247) (hys : u.1 1247 ≤ 120) (c12_1 : ¬ (u.2.1 1251 (x : Int32).toNatClampNeg : Int32) < (u.2.1 1251 (y : Int32).toNatClampNeg)) (c27_17 : ¬ (u.2.1 1251 (x : Int32).toNatClampNeg : Int32) = (u.2.1 1251 (y : Int32).toNatClampNeg)) (c43_18 : (y : Int32) = x) (hb_26 : 0 ≤ (u.2.1 1248 (x : Int32).toNatClampNeg) ∧ (u.2.1 1248 (x : Int32).toNatClampNeg) < u.1 1232) (hs_27 : 0 ≤ u.1 1232 ∧ u.1 1232 ≤ 20) (hb_28 : 0 ≤ (u.2.1 1248 (y : Int32).toNatClampNeg) ∧ (u.2.1 1248 (y : Int32).toNatClampNeg) < u.1 1232) : 0 ≤ y ∧ y < u.1 1247 := by
  have hz1247 := hI.1.s1247
  first | omega | ((try simp only [Int32.lt_iff_toInt_lt, Int32.le_iff_toInt_le, ← Int32.toInt_inj, Int32.toInt_add, Int32.toInt_sub, Int32.toInt_mul, Int32.toInt_neg, Int32.reduceToInt, g_bm, g_bm'] at *); omega) | (simp only [Int32.lt_iff_toInt_lt, Int32.le_iff_toInt_le, ← Int32.toInt_inj, Int32.toInt_add, Int32.toInt_sub, Int32.toInt_mul, Int32.toInt_neg, Int32.reduceToInt, g_bm, g_bm'] at *; simp at *; omega) | (simp_all; done)
set_option maxRecDepth 100000 in
theorem g_X12_areBoth_v66 (u : qS) (x : Int32) (y : Int32) (hI : IM u) (hx : 0 ≤ x ∧ x < u.1 1247) (hy : 0 ≤ y ∧ y < u.1 1247) (hys : u.1 1247 ≤ 120) (c12_1 : ¬ (u.2.1 1251 (x : Int32).toNatClampNeg : Int32) < (u.2.1 1251 (y : Int32).toNatClampNeg)) (c27_17 : ¬ (u.2.1 1251 (x : Int32).toNatClampNeg : Int32) = (u.2.1 1251 (y : Int32).toNatClampNeg)) (c43_18 : (y : Int32) = x) (hb_26 : 0 ≤ (u.2.1 1248 (x : Int32).toNatClampNeg) ∧ (u.2.1 1248 (x : Int32).toNatClampNeg) < u.1 1232) (hs_27 : 0 ≤ u.1 1232 ∧ u.1 1232 ≤ 20) (hb_28 : 0 ≤ (u.2.1 1248 (y : Int32).toNatClampNeg) ∧ (u.2.1 1248 (y : Int32).toNatClampNeg) < u.1 1232) : vp_in (u.2.1 1248 (y : Int32).toNatClampNeg) 20 := by
  have hz1247 := hI.1.s1247
  refine g_in ?_ ?_ <;> ((try simp only [Int32.lt_iff_toInt_lt, Int32.le_iff_toInt_le, ← Int32.toInt_inj, Int32.toInt_add, Int32.toInt_sub, Int32.toInt_mul, Int32.toInt_neg, Int32.reduceToInt, g_bm, g_bm'] at *); omega)
set_option maxRecDepth 100000 in
theorem g_X12_areBoth_v67 (u : qS) (x : Int32) (y : Int32) (hI : IM u) (hx : 0 ≤ x ∧ x < u.1 1247) (hy : 0 ≤ y ∧ y < u.1 1247) (hys : u.1 1247 ≤ 120) (c12_1 : ¬ (u.2.1 1251 (x : Int32).toNatClampNeg : Int32) < (u.2.1 1251 (y : Int32).toNatClampNeg)) (c27_17 : ¬ (u.2.1 1251 (x : Int32).toNatClampNeg : Int32) = (u.2.1 1251 (y : Int32).toNatClampNeg)) (c43_18 : (y : Int32) = x) (hb_26 : 0 ≤ (u.2.1 1248 (x : Int32).toNatClampNeg) ∧ (u.2.1 1248 (x : Int32).toNatClampNeg) < u.1 1232) (hs_27 : 0 ≤ u.1 1232 ∧ u.1 1232 ≤ 20) (hb_28 : 0 ≤ (u.2.1 1248 (y : Int32).toNatClampNeg) ∧ (u.2.1 1248 (y : Int32).toNatClampNeg) < u.1 1232) : vp_in (y) 120 := by
  have hz1247 := hI.1.s1247
  refine g_in ?_ ?_ <;> ((try simp only [Int32.lt_iff_toInt_lt, Int32.le_iff_toInt_le, ← Int32.toInt_inj, Int32.toInt_add, Int32.toInt_sub, Int32.toInt_mul, Int32.toInt_neg, Int32.reduceToInt, g_bm, g_bm'] at *); omega)
set_option maxRecDepth 100000 in
theorem g_X12_areBoth_v68 (u : qS) (x : Int32) (y : Int32) (hI : IM u) (hx : 0 ≤ x ∧ x < u.1 1247) (hy : 0 ≤ y ∧ y < u.1 1247) (hys : u.1 1247 ≤ 120) (c12_1 : ¬ (u.2.1 1251 (x : Int32).toNatClampNeg : Int32) < (u.2.1 1251 (y : Int32).toNatClampNeg)) (c27_17 : ¬ (u.2.1 1251 (x : Int32).toNatClampNeg : Int32) = (u.2.1 1251 (y : Int32).toNatClampNeg)) (c43_18 : (y : Int32) = x) (hb_26 : 0 ≤ (u.2.1 1248 (x : Int32).toNatClampNeg) ∧ (u.2.1 1248 (x : Int32).toNatClampNeg) < u.1 1232) (hs_27 : 0 ≤ u.1 1232 ∧ u.1 1232 ≤ 20) (hb_28 : 0 ≤ (u.2.1 1248 (y : Int32).toNatClampNeg) ∧ (u.2.1 1248 (y : Int32).toNatClampNeg) < u.1 1232) : vp_in (y) 120 := by
  have hz1247 := hI.1.s1247
  refine g_in ?_ ?_ <;> ((try simp only [Int32.lt_iff_toInt_lt, Int32.le_iff_toInt_le, ← Int32.toInt_inj, Int32.toInt_add, Int32.toInt_sub, Int32.toInt_mul, Int32.toInt_neg, Int32.reduceToInt, g_bm, g_bm'] at *); omega)
set_option maxRecDepth 100000 in
theorem g_X12_areBoth_v69 (u : qS) (x : Int32) (y : Int32) (hI : IM u) (hx : 0 ≤ x ∧ x < u.1 1247) (hy : 0 ≤ y ∧ y < u.1 1247) (hys : u.1 1247 ≤ 120) (c12_1 : ¬ (u.2.1 1251 (x : Int32).toNatClampNeg : Int32) < (u.2.1 1251 (y : Int32).toNatClampNeg)) (c27_17 : ¬ (u.2.1 1251 (x : Int32).toNatClampNeg : Int32) = (u.2.1 1251 (y : Int32).toNatClampNeg)) (c43_18 : (y : Int32) = x) (hb_26 : 0 ≤ (u.2.1 1248 (x : Int32).toNatClampNeg) ∧ (u.2.1 1248 (x : Int32).toNatClampNeg) < u.1 1232) (hs_27 : 0 ≤ u.1 1232 ∧ u.1 1232 ≤ 20) (hb_28 : 0 ≤ (u.2.1 1248 (y : Int32).toNatClampNeg) ∧ (u.2.1 1248 (y : Int32).toNatClampNeg) < u.1 1232) : vp_in (y) 120 := by
  have hz1247 := hI.1.s1247
  refine g_in ?_ ?_ <;> ((try simp only [Int32.lt_iff_toInt_lt, Int32.le_iff_toInt_le, ← Int32.toInt_inj, Int32.toInt_add, Int32.toInt_sub, Int32.toInt_mul, Int32.toInt_neg, Int32.reduceToInt, g_bm, g_bm'] at *); omega)
set_option maxRecDepth 100000 in
theorem g_X12_areBoth_v70 (u : qS) (x : Int32) (y : Int32) (r_31 : Int32) (hI : IM u) (hx : 0 ≤ x ∧ x < u.1 1247) (hy : 0 ≤ y ∧ y < u.1 1247) (hys : u.1 1247 ≤ 120) (c12_1 : ¬ (u.2.1 1251 (x : Int32).toNatClampNeg : Int32) < (u.2.1 1251 (y : Int32).toNatClampNeg)) (c27_17 : ¬ (u.2.1 1251 (x : Int32).toNatClampNeg : Int32) = (u.2.1 1251 (y : Int32).toNatClampNeg)) (c43_18 : (y : Int32) = x) (hb_26 : 0 ≤ (u.2.1 1248 (x : Int32).toNatClampNeg) ∧ (u.2.1 1248 (x : Int32).toNatClampNeg) < u.1 1232) (hs_27 : 0 ≤ u.1 1232 ∧ u.1 1232 ≤ 20) (hb_28 : 0 ≤ (u.2.1 1248 (y : Int32).toNatClampNeg) ∧ (u.2.1 1248 (y : Int32).toNatClampNeg) < u.1 1232) (c130_32 : (u.2.1 1251 (y : Int32).toNatClampNeg : Int32) < (((u.2.1 1251 (y : Int32).toNatClampNeg) + (u.2.1 1252 (y : Int32).toNatClampNeg)) + ((u.1 1242) * r_31))) : (0 : Int32) = 1 ∨ (0 : Int32) = 0 := by
  have hz1247 := hI.1.s1247
  first | omega | ((try simp only [Int32.lt_iff_toInt_lt, Int32.le_iff_toInt_le, ← Int32.toInt_inj, Int32.toInt_add, Int32.toInt_sub, Int32.toInt_mul, Int32.toInt_neg, Int32.reduceToInt, g_bm, g_bm'] at *); omega) | (simp only [Int32.lt_iff_toInt_lt, Int32.le_iff_toInt_le, ← Int32.toInt_inj, Int32.toInt_add, Int32.toInt_sub, Int32.toInt_mul, Int32.toInt_neg, Int32.reduceToInt, g_bm, g_bm'] at *; simp at *; omega) | (simp_all; done)
set_option maxRecDepth 100000 in
theorem g_X12_areBoth_v71 (u : qS) (x : Int32) (y : Int32) (r_31 : Int32) (hI : IM u) (hx : 0 ≤ x ∧ x < u.1 1247) (hy : 0 ≤ y ∧ y < u.1 1247) (hys : u.1 1247 ≤ 120) (c12_1 : ¬ (u.2.1 1251 (x : Int32).toNatClampNeg : Int32) < (u.2.1 1251 (y : Int32).toNatClampNeg)) (c27_17 : ¬ (u.2.1 1251 (x : Int32).toNatClampNeg : Int32) = (u.2.1 1251 (y : Int32).toNatClampNeg)) (c43_18 : (y : Int32) = x) (hb_26 : 0 ≤ (u.2.1 1248 (x : Int32).toNatClampNeg) ∧ (u.2.1 1248 (x : Int32).toNatClampNeg) < u.1 1232) (hs_27 : 0 ≤ u.1 1232 ∧ u.1 1232 ≤ 20) (hb_28 : 0 ≤ (u.2.1 1248 (y : Int32).toNatClampNeg) ∧ (u.2.1 1248 (y : Int32).toNatClampNeg) < u.1 1232) (c130_32 : ¬ (u.2.1 1251 (y : Int32).toNatClampNeg : Int32) < (((u.2.1 1251 (y : Int32).toNatClampNeg) + (u.2.1 1252 (y : Int32).toNatClampNeg)) + ((u.1 1242) * r_31))) : (1 : Int32) = 1 ∨ (1 : Int32) = 0 := by
  have hz1247 := hI.1.s1247
  first | omega | ((try simp only [Int32.lt_iff_toInt_lt, Int32.le_iff_toInt_le, ← Int32.toInt_inj, Int32.toInt_add, Int32.toInt_sub, Int32.toInt_mul, Int32.toInt_neg, Int32.reduceToInt, g_bm, g_bm'] at *); omega) | (simp only [Int32.lt_iff_toInt_lt, Int32.le_iff_toInt_le, ← Int32.toInt_inj, Int32.toInt_add, Int32.toInt_sub, Int32.toInt_mul, Int32.toInt_neg, Int32.reduceToInt, g_bm, g_bm'] at *; simp at *; omega) | (simp_all; done)
set_option maxRecDepth 100000 in
theorem g_X12_areBoth_v72 (u : qS) (x : Int32) (y : Int32) (hI : IM u) (hx : 0 ≤ x ∧ x < u.1 1247) (hy : 0 ≤ y ∧ y < u.1 1247) (hys : u.1 1247 ≤ 120) (c12_1 : ¬ (u.2.1 1251 (x : Int32).toNatClampNeg : Int32) < (u.2.1 1251 (y : Int32).toNatClampNeg)) (c27_17 : (u.2.1 1251 (x : Int32).toNatClampNeg : Int32) = (u.2.1 1251 (y : Int32).toNatClampNeg)) (c32_33 : y ≤ (x : Int32)) (c43_34 : ¬ (y : Int32) = x) : vp_in (x) 120 := by
  have hz1247 := hI.1.s1247
  refine g_in ?_ ?_ <;> ((try simp only [Int32.lt_iff_toInt_lt, Int32.le_iff_toInt_le, ← Int32.toInt_inj, Int32.toInt_add, Int32.toInt_sub, Int32.toInt_mul, Int32.toInt_neg, Int32.reduceToInt, g_bm, g_bm'] at *); omega)
set_option maxRecDepth 100000 in
theorem g_X12_areBoth_v73 (u : qS) (x : Int32) (y : Int32) (hI : IM u) (hx : 0 ≤ x ∧ x < u.1 1247) (hy : 0 ≤ y ∧ y < u.1 1247) (hys : u.1 1247 ≤ 120) (c12_1 : ¬ (u.2.1 1251 (x : Int32).toNatClampNeg : Int32) < (u.2.1 1251 (y : Int32).toNatClampNeg)) (c27_17 : (u.2.1 1251 (x : Int32).toNatClampNeg : Int32) = (u.2.1 1251 (y : Int32).toNatClampNeg)) (c32_33 : y ≤ (x : Int32)) (c43_34 : ¬ (y : Int32) = x) : 0 ≤ x ∧ x < u.1 1247 := by
  have hz1247 := hI.1.s1247
  first | omega | ((try simp only [Int32.lt_iff_toInt_lt, Int32.le_iff_toInt_le, ← Int32.toInt_inj, Int32.toInt_add, Int32.toInt_sub, Int32.toInt_mul, Int32.toInt_neg, Int32.reduceToInt, g_bm, g_bm'] at *); omega) | (simp only [Int32.lt_iff_toInt_lt, Int32.le_iff_toInt_le, ← Int32.toInt_inj, Int32.toInt_add, Int32.toInt_sub, Int32.toInt_mul, Int32.toInt_neg, Int32.reduceToInt, g_bm, g_bm'] at *; simp at *; omega) | (simp_all; done)
set_option maxRecDepth 100000 in
theorem g_X12_areBoth_v74 (u : qS) (x : Int32) (y : Int32) (hI : IM u) (hx : 0 ≤ x ∧ x < u.1 1247) (hy : 0 ≤ y ∧ y < u.1 1247) (hys : u.1 1247 ≤ 120) (c12_1 : ¬ (u.2.1 1251 (x : Int32).toNatClampNeg : Int32) < (u.2.1 1251 (y : Int32).toNatClampNeg)) (c27_17 : (u.2.1 1251 (x : Int32).toNatClampNeg : Int32) = (u.2.1 1251 (y : Int32).toNatClampNeg)) (c32_33 : y ≤ (x : Int32)) (c43_34 : ¬ (y : Int32) = x) (hb_35 : 0 ≤ (u.2.1 1248 (x : Int32).toNatClampNeg) ∧ (u.2.1 1248 (x : Int32).toNatClampNeg) < u.1 1232) (hs_36 : 0 ≤ u.1 1232 ∧ u.1 1232 ≤ 20) : vp_in (u.2.1 1248 (x : Int32).toNatClampNeg) 20 := by
  have hz1247 := hI.1.s1247
  refine g_in ?_ ?_ <;> ((try simp only [Int32.lt_iff_toInt_lt, Int32.le_iff_toInt_le, ← Int32.toInt_inj, Int32.toInt_add, Int32.toInt_sub, Int32.toInt_mul, Int32.toInt_neg, Int32.reduceToInt, g_bm, g_bm'] at *); omega)
set_option maxRecDepth 100000 in
theorem g_X12_areBoth_v75 (u : qS) (x : Int32) (y : Int32) (hI : IM u) (hx : 0 ≤ x ∧ x < u.1 1247) (hy : 0 ≤ y ∧ y < u.1 1247) (hys : u.1 1247 ≤ 120) (c12_1 : ¬ (u.2.1 1251 (x : Int32).toNatClampNeg : Int32) < (u.2.1 1251 (y : Int32).toNatClampNeg)) (c27_17 : (u.2.1 1251 (x : Int32).toNatClampNeg : Int32) = (u.2.1 1251 (y : Int32).toNatClampNeg)) (c32_33 : y ≤ (x : Int32)) (c43_34 : ¬ (y : Int32) = x) (hb_35 : 0 ≤ (u.2.1 1248 (x : Int32).toNatClampNeg) ∧ (u.2.1 1248 (x : Int32).toNatClampNeg) < u.1 1232) (hs_36 : 0 ≤ u.1 1232 ∧ u.1 1232 ≤ 20) : vp_in (x) 120 := by
  have hz1247 := hI.1.s1247
  refine g_in ?_ ?_ <;> ((try simp only [Int32.lt_iff_toInt_lt, Int32.le_iff_toInt_le, ← Int32.toInt_inj, Int32.toInt_add, Int32.toInt_sub, Int32.toInt_mul, Int32.toInt_neg, Int32.reduceToInt, g_bm, g_bm'] at *); omega)
set_option maxRecDepth 100000 in
theorem g_X12_areBoth_v76 (u : qS) (x : Int32) (y : Int32) (hI : IM u) (hx : 0 ≤ x ∧ x < u.1 1247) (hy : 0 ≤ y ∧ y < u.1 1247) (hys : u.1 1247 ≤ 120) (c12_1 : ¬ (u.2.1 1251 (x : Int32).toNatClampNeg : Int32) < (u.2.1 1251 (y : Int32).toNatClampNeg)) (c27_17 : (u.2.1 1251 (x : Int32).toNatClampNeg : Int32) = (u.2.1 1251 (y : Int32).toNatClampNeg)) (c32_33 : y ≤ (x : Int32)) (c43_34 : ¬ (y : Int32) = x) (hb_35 : 0 ≤ (u.2.1 1248 (x : Int32).toNatClampNeg) ∧ (u.2.1 1248 (x : Int32).toNatClampNeg) < u.1 1232) (hs_36 : 0 ≤ u.1 1232 ∧ u.1 1232 ≤ 20) : 0 ≤ x ∧ x < u.1 1247 := by
  have hz1247 := hI.1.s1247
  first | omega | ((try simp only [Int32.lt_iff_toInt_lt, Int32.le_iff_toInt_le, ← Int32.toInt_inj, Int32.toInt_add, Int32.toInt_sub, Int32.toInt_mul, Int32.toInt_neg, Int32.reduceToInt, g_bm, g_bm'] at *); omega) | (simp only [Int32.lt_iff_toInt_lt, Int32.le_iff_toInt_le, ← Int32.toInt_inj, Int32.toInt_add, Int32.toInt_sub, Int32.toInt_mul, Int32.toInt_neg, Int32.reduceToInt, g_bm, g_bm'] at *; simp at *; omega) | (simp_all; done)
set_option maxRecDepth 100000 in
theorem g_X12_areBoth_v77 (u : qS) (x : Int32) (y : Int32) (hI : IM u) (hx : 0 ≤ x ∧ x < u.1 1247) (hy : 0 ≤ y ∧ y < u.1 1247) (hys : u.1 1247 ≤ 120) (c12_1 : ¬ (u.2.1 1251 (x : Int32).toNatClampNeg : Int32) < (u.2.1 1251 (y : Int32).toNatClampNeg)) (c27_17 : (u.2.1 1251 (x : Int32).toNatClampNeg : Int32) = (u.2.1 1251 (y : Int32).toNatClampNeg)) (c32_33 : y ≤ (x : Int32)) (c43_34 : ¬ (y : Int32) = x) (hb_35 : 0 ≤ (u.2.1 1248 (x : Int32).toNatClampNeg) ∧ (u.2.1 1248 (x : Int32).toNatClampNeg) < u.1 1232) (hs_36 : 0 ≤ u.1 1232 ∧ u.1 1232 ≤ 20) : vp_in (u.2.1 1248 (x : Int32).toNatClampNeg) 20 := by
  have hz1247 := hI.1.s1247
  refine g_in ?_ ?_ <;> ((try simp only [Int32.lt_iff_toInt_lt, Int32.le_iff_toInt_le, ← Int32.toInt_inj, Int32.toInt_add, Int32.toInt_sub, Int32.toInt_mul, Int32.toInt_neg, Int32.reduceToInt, g_bm, g_bm'] at *); omega)
set_option maxRecDepth 100000 in
theorem g_X12_areBoth_v78 (u : qS) (x : Int32) (y : Int32) (hI : IM u) (hx : 0 ≤ x ∧ x < u.1 1247) (hy : 0 ≤ y ∧ y < u.1 1247) (hys : u.1 1247 ≤ 120) (c12_1 : ¬ (u.2.1 1251 (x : Int32).toNatClampNeg : Int32) < (u.2.1 1251 (y : Int32).toNatClampNeg)) (c27_17 : (u.2.1 1251 (x : Int32).toNatClampNeg : Int32) = (u.2.1 1251 (y : Int32).toNatClampNeg)) (c32_33 : y ≤ (x : Int32)) (c43_34 : ¬ (y : Int32) = x) (hb_35 : 0 ≤ (u.2.1 1248 (x : Int32).toNatClampNeg) ∧ (u.2.1 1248 (x : Int32).toNatClampNeg) < u.1 1232) (hs_36 : 0 ≤ u.1 1232 ∧ u.1 1232 ≤ 20) : vp_in (y) 120 := by
  have hz1247 := hI.1.s1247
  refine g_in ?_ ?_ <;> ((try simp only [Int32.lt_iff_toInt_lt, Int32.le_iff_toInt_le, ← Int32.toInt_inj, Int32.toInt_add, Int32.toInt_sub, Int32.toInt_mul, Int32.toInt_neg, Int32.reduceToInt, g_bm, g_bm'] at *); omega)
set_option maxRecDepth 100000 in
theorem g_X12_areBoth_v79 (u : qS) (x : Int32) (y : Int32) (hI : IM u) (hx : 0 ≤ x ∧ x < u.1 1247) (hy : 0 ≤ y ∧ y < u.1 1247) (hys : u.1 1247 ≤ 120) (c12_1 : ¬ (u.2.1 1251 (x : Int32).toNatClampNeg : Int32) < (u.2.1 1251 (y : Int32).toNatClampNeg)) (c27_17 : (u.2.1 1251 (x : Int32).toNatClampNeg : Int32) = (u.2.1 1251 (y : Int32).toNatClampNeg)) (c32_33 : y ≤ (x : Int32)) (c43_34 : ¬ (y : Int32) = x) (hb_35 : 0 ≤ (u.2.1 1248 (x : Int32).toNatClampNeg) ∧ (u.2.1 1248 (x : Int32).toNatClampNeg) < u.1 1232) (hs_36 : 0 ≤ u.1 1232 ∧ u.1 1232 ≤ 20) : 0 ≤ y ∧ y < u.1 1247 := by
  have hz1247 := hI.1.s1247
  first | omega | ((try simp only [Int32.lt_iff_toInt_lt, Int32.le_iff_toInt_le, ← Int32.toInt_inj, Int32.toInt_add, Int32.toInt_sub, Int32.toInt_mul, Int32.toInt_neg, Int32.reduceToInt, g_bm, g_bm'] at *); omega) | (simp only [Int32.lt_iff_toInt_lt, Int32.le_iff_toInt_le, ← Int32.toInt_inj, Int32.toInt_add, Int32.toInt_sub, Int32.toInt_mul, Int32.toInt_neg, Int32.reduceToInt, g_bm, g_bm'] at *; simp at *; omega) | (simp_all; done)
set_option maxRecDepth 100000 in
theorem g_X12_areBoth_v80 (u : qS) (x : Int32) (y : Int32) (hI : IM u) (hx : 0 ≤ x ∧ x < u.1 1247) (hy : 0 ≤ y ∧ y < u.1 1247) (hys : u.1 1247 ≤ 120) (c12_1 : ¬ (u.2.1 1251 (x : Int32).toNatClampNeg : Int32) < (u.2.1 1251 (y : Int32).toNatClampNeg)) (c27_17 : (u.2.1 1251 (x : Int32).toNatClampNeg : Int32) = (u.2.1 1251 (y : Int32).toNatClampNeg)) (c32_33 : y ≤ (x : Int32)) (c43_34 : ¬ (y : Int32) = x) (hb_35 : 0 ≤ (u.2.1 1248 (x : Int32).toNatClampNeg) ∧ (u.2.1 1248 (x : Int32).toNatClampNeg) < u.1 1232) (hs_36 : 0 ≤ u.1 1232 ∧ u.1 1232 ≤ 20) (hb_37 : 0 ≤ (u.2.1 1248 (y : Int32).toNatClampNeg) ∧ (u.2.1 1248 (y : Int32).toNatClampNeg) < u.1 1232) : vp_in (u.2.1 1248 (y : Int32).toNatClampNeg) 20 := by
  have hz1247 := hI.1.s1247
  refine g_in ?_ ?_ <;> ((try simp only [Int32.lt_iff_toInt_lt, Int32.le_iff_toInt_le, ← Int32.toInt_inj, Int32.toInt_add, Int32.toInt_sub, Int32.toInt_mul, Int32.toInt_neg, Int32.reduceToInt, g_bm, g_bm'] at *); omega)
set_option maxRecDepth 100000 in
theorem g_X12_areBoth_v81 (u : qS) (x : Int32) (y : Int32) (hI : IM u) (hx : 0 ≤ x ∧ x < u.1 1247) (hy : 0 ≤ y ∧ y < u.1 1247) (hys : u.1 1247 ≤ 120) (c12_1 : ¬ (u.2.1 1251 (x : Int32).toNatClampNeg : Int32) < (u.2.1 1251 (y : Int32).toNatClampNeg)) (c27_17 : (u.2.1 1251 (x : Int32).toNatClampNeg : Int32) = (u.2.1 1251 (y : Int32).toNatClampNeg)) (c32_33 : y ≤ (x : Int32)) (c43_34 : ¬ (y : Int32) = x) (hb_35 : 0 ≤ (u.2.1 1248 (x : Int32).toNatClampNeg) ∧ (u.2.1 1248 (x : Int32).toNatClampNeg) < u.1 1232) (hs_36 : 0 ≤ u.1 1232 ∧ u.1 1232 ≤ 20) (hb_37 : 0 ≤ (u.2.1 1248 (y : Int32).toNatClampNeg) ∧ (u.2.1 1248 (y : Int32).toNatClampNeg) < u.1 1232) : vp_in (y) 120 := by
  have hz1247 := hI.1.s1247
  refine g_in ?_ ?_ <;> ((try simp only [Int32.lt_iff_toInt_lt, Int32.le_iff_toInt_le, ← Int32.toInt_inj, Int32.toInt_add, Int32.toInt_sub, Int32.toInt_mul, Int32.toInt_neg, Int32.reduceToInt, g_bm, g_bm'] at *); omega)
set_option maxRecDepth 100000 in
theorem g_X12_areBoth_v82 (u : qS) (x : Int32) (y : Int32) (hI : IM u) (hx : 0 ≤ x ∧ x < u.1 1247) (hy : 0 ≤ y ∧ y < u.1 1247) (hys : u.1 1247 ≤ 120) (c12_1 : ¬ (u.2.1 1251 (x : Int32).toNatClampNeg : Int32) < (u.2.1 1251 (y : Int32).toNatClampNeg)) (c27_17 : (u.2.1 1251 (x : Int32).toNatClampNeg : Int32) = (u.2.1 1251 (y : Int32).toNatClampNeg)) (c32_33 : y ≤ (x : Int32)) (c43_34 : ¬ (y : Int32) = x) (hb_35 : 0 ≤ (u.2.1 1248 (x : Int32).toNatClampNeg) ∧ (u.2.1 1248 (x : Int32).toNatClampNeg) < u.1 1232) (hs_36 : 0 ≤ u.1 1232 ∧ u.1 1232 ≤ 20) (hb_37 : 0 ≤ (u.2.1 1248 (y : Int32).toNatClampNeg) ∧ (u.2.1 1248 (y : Int32).toNatClampNeg) < u.1 1232) : 0 ≤ y ∧ y < u.1 1247 := by
  have hz1247 := hI.1.s1247
  first | omega | ((try simp only [Int32.lt_iff_toInt_lt, Int32.le_iff_toInt_le, ← Int32.toInt_inj, Int32.toInt_add, Int32.toInt_sub, Int32.toInt_mul, Int32.toInt_neg, Int32.reduceToInt, g_bm, g_bm'] at *); omega) | (simp only [Int32.lt_iff_toInt_lt, Int32.le_iff_toInt_le, ← Int32.toInt_inj, Int32.toInt_add, Int32.toInt_sub, Int32.toInt_mul, Int32.toInt_neg, Int32.reduceToInt, g_bm, g_bm'] at *; simp at *; omega) | (simp_all; done)
set_option maxRecDepth 100000 in
theorem g_X12_areBoth_v83 (u : qS) (x : Int32) (y : Int32) (hI : IM u) (hx : 0 ≤ x ∧ x < u.1 1247) (hy : 0 ≤ y ∧ y < u.1 1247) (hys : u.1 1247 ≤ 120) (c12_1 : ¬ (u.2.1 1251 (x : Int32).toNatClampNeg : Int32) < (u.2.1 1251 (y : Int32).toNatClampNeg)) (c27_17 : (u.2.1 1251 (x : Int32).toNatClampNeg : Int32) = (u.2.1 1251 (y : Int32).toNatClampNeg)) (c32_33 : y ≤ (x : Int32)) (c43_34 : ¬ (y : Int32) = x) (hb_35 : 0 ≤ (u.2.1 1248 (x : Int32).toNatClampNeg) ∧ (u.2.1 1248 (x : Int32).toNatClampNeg) < u.1 1232) (hs_36 : 0 ≤ u.1 1232 ∧ u.1 1232 ≤ 20) (hb_37 : 0 ≤ (u.2.1 1248 (y : Int32).toNatClampNeg) ∧ (u.2.1 1248 (y : Int32).toNatClampNeg) < u.1 1232) : vp_in (u.2.1 1248 (y : Int32).toNatClampNeg) 20 := by
  have hz1247 := hI.1.s1247
  refine g_in ?_ ?_ <;> ((try simp only [Int32.lt_iff_toInt_lt, Int32.le_iff_toInt_le, ← Int32.toInt_inj, Int32.toInt_add, Int32.toInt_sub, Int32.toInt_mul, Int32.toInt_neg, Int32.reduceToInt, g_bm, g_bm'] at *); omega)
set_option maxRecDepth 100000 in
theorem g_X12_areBoth_v84 (u : qS) (x : Int32) (y : Int32) (hI : IM u) (hx : 0 ≤ x ∧ x < u.1 1247) (hy : 0 ≤ y ∧ y < u.1 1247) (hys : u.1 1247 ≤ 120) (c12_1 : ¬ (u.2.1 1251 (x : Int32).toNatClampNeg : Int32) < (u.2.1 1251 (y : Int32).toNatClampNeg)) (c27_17 : (u.2.1 1251 (x : Int32).toNatClampNeg : Int32) = (u.2.1 1251 (y : Int32).toNatClampNeg)) (c32_33 : y ≤ (x : Int32)) (c43_34 : ¬ (y : Int32) = x) (hb_35 : 0 ≤ (u.2.1 1248 (x : Int32).toNatClampNeg) ∧ (u.2.1 1248 (x : Int32).toNatClampNeg) < u.1 1232) (hs_36 : 0 ≤ u.1 1232 ∧ u.1 1232 ≤ 20) (hb_37 : 0 ≤ (u.2.1 1248 (y : Int32).toNatClampNeg) ∧ (u.2.1 1248 (y : Int32).toNatClampNeg) < u.1 1232) : vp_in (x) 120 := by
  have hz1247 := hI.1.s1247
  refine g_in ?_ ?_ <;> ((try simp only [Int32.lt_iff_toInt_lt, Int32.le_iff_toInt_le, ← Int32.toInt_inj, Int32.toInt_add, Int32.toInt_sub, Int32.toInt_mul, Int32.toInt_neg, Int32.reduceToInt, g_bm, g_bm'] at *); omega)
set_option maxRecDepth 100000 in
theorem g_X12_areBoth_v85 (u : qS) (x : Int32) (y : Int32) (hI : IM u) (hx : 0 ≤ x ∧ x < u.1 1247) (hy : 0 ≤ y ∧ y < u.1 1247) (hys : u.1 1247 ≤ 120) (c12_1 : ¬ (u.2.1 1251 (x : Int32).toNatClampNeg : Int32) < (u.2.1 1251 (y : Int32).toNatClampNeg)) (c27_17 : (u.2.1 1251 (x : Int32).toNatClampNeg : Int32) = (u.2.1 1251 (y : Int32).toNatClampNeg)) (c32_33 : y ≤ (x : Int32)) (c43_34 : ¬ (y : Int32) = x) (hb_35 : 0 ≤ (u.2.1 1248 (x : Int32).toNatClampNeg) ∧ (u.2.1 1248 (x : Int32).toNatClampNeg) < u.1 1232) (hs_36 : 0 ≤ u.1 1232 ∧ u.1 1232 ≤ 20) (hb_37 : 0 ≤ (u.2.1 1248 (y : Int32).toNatClampNeg) ∧ (u.2.1 1248 (y : Int32).toNatClampNeg) < u.1 1232) : vp_in (y) 120 := by
  have hz1247 := hI.1.s1247
  refine g_in ?_ ?_ <;> ((try simp only [Int32.lt_iff_toInt_lt, Int32.le_iff_toInt_le, ← Int32.toInt_inj, Int32.toInt_add, Int32.toInt_sub, Int32.toInt_mul, Int32.toInt_neg, Int32.reduceToInt, g_bm, g_bm'] at *); omega)
set_option maxRecDepth 100000 in
theorem g_X12_areBoth_v86 (u : qS) (x : Int32) (y : Int32) (hI : IM u) (hx : 0 ≤ x ∧ x < u.1 1247) (hy : 0 ≤ y ∧ y < u.1 1247) (hys : u.1 1247 ≤ 120) (c12_1 : ¬ (u.2.1 1251 (x : Int32).toNatClampNeg : Int32) < (u.2.1 1251 (y : Int32).toNatClampNeg)) (c27_17 : (u.2.1 1251 (x : Int32).toNatClampNeg : Int32) = (u.2.1 1251 (y : Int32).toNatClampNeg)) (c32_33 : y ≤ (x : Int32)) (c43_34 : ¬ (y : Int32) = x) (hb_35 : 0 ≤ (u.2.1 1248 (x : Int32).toNatClampNeg) ∧ (u.2.1 1248 (x : Int32).toNatClampNeg) < u.1 1232) (hs_36 : 0 ≤ u.1 1232 ∧ u.1 1232 ≤ 20) (hb_37 : 0 ≤ (u.2.1 1248 (y : Int32).toNatClampNeg) ∧ (u.2.1 1248 (y : Int32).toNatClampNeg) < u.1 1232) : vp_in (y) 120 := by
  have hz1247 := hI.1.s1247
  refine g_in ?_ ?_ <;> ((try simp only [Int32.lt_iff_toInt_lt, Int32.le_iff_toInt_le, ← Int32.toInt_inj, Int32.toInt_add, Int32.toInt_sub, Int32.toInt_mul, Int32.toInt_neg, Int32.reduceToInt, g_bm, g_bm'] at *); omega)
set_option maxRecDepth 100000 in
theorem g_X12_areBoth_v87 (u : qS) (x : Int32) (y : Int32) (r_40 : Int32) (hI : IM u) (hx : 0 ≤ x ∧ x < u.1 1247) (hy : 0 ≤ y ∧ y < u.1 1247) (hys : u.1 1247 ≤ 120) (c12_1 : ¬ (u.2.1 1251 (x : Int32).toNatClampNeg : Int32) < (u.2.1 1251 (y : Int32).toNatClampNeg)) (c27_17 : (u.2.1 1251 (x : Int32).toNatClampNeg : Int32) = (u.2.1 1251 (y : Int32).toNatClampNeg)) (c32_33 : y ≤ (x : Int32)) (c43_34 : ¬ (y : Int32) = x) (hb_35 : 0 ≤ (u.2.1 1248 (x : Int32).toNatClampNeg) ∧ (u.2.1 1248 (x : Int32).toNatClampNeg) < u.1 1232) (hs_36 : 0 ≤ u.1 1232 ∧ u.1 1232 ≤ 20) (hb_37 : 0 ≤ (u.2.1 1248 (y : Int32).toNatClampNeg) ∧ (u.2.1 1248 (y : Int32).toNatClampNeg) < u.1 1232) (c130_41 : (u.2.1 1251 (x : Int32).toNatClampNeg : Int32) < (((u.2.1 1251 (y : Int32).toNatClampNeg) + (u.2.1 1252 (y : Int32).toNatClampNeg)) + ((u.1 1242) * r_40))) : (0 : Int32) = 1 ∨ (0 : Int32) = 0 := by
  have hz1247 := hI.1.s1247
  first | omega | ((try simp only [Int32.lt_iff_toInt_lt, Int32.le_iff_toInt_le, ← Int32.toInt_inj, Int32.toInt_add, Int32.toInt_sub, Int32.toInt_mul, Int32.toInt_neg, Int32.reduceToInt, g_bm, g_bm'] at *); omega) | (simp only [Int32.lt_iff_toInt_lt, Int32.le_iff_toInt_le, ← Int32.toInt_inj, Int32.toInt_add, Int32.toInt_sub, Int32.toInt_mul, Int32.toInt_neg, Int32.reduceToInt, g_bm, g_bm'] at *; simp at *; omega) | (simp_all; done)
set_option maxRecDepth 100000 in
theorem g_X12_areBoth_v88 (u : qS) (x : Int32) (y : Int32) (r_40 : Int32) (hI : IM u) (hx : 0 ≤ x ∧ x < u.1 1247) (hy : 0 ≤ y ∧ y < u.1 1247) (hys : u.1 1247 ≤ 120) (c12_1 : ¬ (u.2.1 1251 (x : Int32).toNatClampNeg : Int32) < (u.2.1 1251 (y : Int32).toNatClampNeg)) (c27_17 : (u.2.1 1251 (x : Int32).toNatClampNeg : Int32) = (u.2.1 1251 (y : Int32).toNatClampNeg)) (c32_33 : y ≤ (x : Int32)) (c43_34 : ¬ (y : Int32) = x) (hb_35 : 0 ≤ (u.2.1 1248 (x : Int32).toNatClampNeg) ∧ (u.2.1 1248 (x : Int32).toNatClampNeg) < u.1 1232) (hs_36 : 0 ≤ u.1 1232 ∧ u.1 1232 ≤ 20) (hb_37 : 0 ≤ (u.2.1 1248 (y : Int32).toNatClampNeg) ∧ (u.2.1 1248 (y : Int32).toNatClampNeg) < u.1 1232) (c130_41 : ¬ (u.2.1 1251 (x : Int32).toNatClampNeg : Int32) < (((u.2.1 1251 (y : Int32).toNatClampNeg) + (u.2.1 1252 (y : Int32).toNatClampNeg)) + ((u.1 1242) * r_40))) : (1 : Int32) = 1 ∨ (1 : Int32) = 0 := by
  have hz1247 := hI.1.s1247
  first | omega | ((try simp only [Int32.lt_iff_toInt_lt, Int32.le_iff_toInt_le, ← Int32.toInt_inj, Int32.toInt_add, Int32.toInt_sub, Int32.toInt_mul, Int32.toInt_neg, Int32.reduceToInt, g_bm, g_bm'] at *); omega) | (simp only [Int32.lt_iff_toInt_lt, Int32.le_iff_toInt_le, ← Int32.toInt_inj, Int32.toInt_add, Int32.toInt_sub, Int32.toInt_mul, Int32.toInt_neg, Int32.reduceToInt, g_bm, g_bm'] at *; simp at *; omega) | (simp_all; done)
set_option maxRecDepth 100000 in
theorem g_X12_areBoth_v89 (u : qS) (x : Int32) (y : Int32) (hI : IM u) (hx : 0 ≤ x ∧ x < u.1 1247) (hy : 0 ≤ y ∧ y < u.1 1247) (hys : u.1 1247 ≤ 120) (c12_1 : ¬ (u.2.1 1251 (x : Int32).toNatClampNeg : Int32) < (u.2.1 1251 (y : Int32).toNatClampNeg)) (c27_17 : (u.2.1 1251 (x : Int32).toNatClampNeg : Int32) = (u.2.1 1251 (y : Int32).toNatClampNeg)) (c32_33 : y ≤ (x : Int32)) (c43_34 : (y : Int32) = x) : vp_in (x) 120 := by
  have hz1247 := hI.1.s1247
  refine g_in ?_ ?_ <;> ((try simp only [Int32.lt_iff_toInt_lt, Int32.le_iff_toInt_le, ← Int32.toInt_inj, Int32.toInt_add, Int32.toInt_sub, Int32.toInt_mul, Int32.toInt_neg, Int32.reduceToInt, g_bm, g_bm'] at *); omega)
set_option maxRecDepth 100000 in
theorem g_X12_areBoth_v90 (u : qS) (x : Int32) (y : Int32) (hI : IM u) (hx : 0 ≤ x ∧ x < u.1 1247) (hy : 0 ≤ y ∧ y < u.1 1247) (hys : u.1 1247 ≤ 120) (c12_1 : ¬ (u.2.1 1251 (x : Int32).toNatClampNeg : Int32) < (u.2.1 1251 (y : Int32).toNatClampNeg)) (c27_17 : (u.2.1 1251 (x : Int32).toNatClampNeg : Int32) = (u.2.1 1251 (y : Int32).toNatClampNeg)) (c32_33 : y ≤ (x : Int32)) (c43_34 : (y : Int32) = x) : 0 ≤ x ∧ x < u.1 1247 := by
  have hz1247 := hI.1.s1247
  first | omega | ((try simp only [Int32.lt_iff_toInt_lt, Int32.le_iff_toInt_le, ← Int32.toInt_inj, Int32.toInt_add, Int32.toInt_sub, Int32.toInt_mul, Int32.toInt_neg, Int32.reduceToInt, g_bm, g_bm'] at *); omega) | (simp only [Int32.lt_iff_toInt_lt, Int32.le_iff_toInt_le, ← Int32.toInt_inj, Int32.toInt_add, Int32.toInt_sub, Int32.toInt_mul, Int32.toInt_neg, Int32.reduceToInt, g_bm, g_bm'] at *; simp at *; omega) | (simp_all; done)
set_option maxRecDepth 100000 in
theorem g_X12_areBoth_v91 (u : qS) (x : Int32) (y : Int32) (hI : IM u) (hx : 0 ≤ x ∧ x < u.1 1247) (hy : 0 ≤ y ∧ y < u.1 1247) (hys : u.1 1247 ≤ 120) (c12_1 : ¬ (u.2.1 1251 (x : Int32).toNatClampNeg : Int32) < (u.2.1 1251 (y : Int32).toNatClampNeg)) (c27_17 : (u.2.1 1251 (x : Int32).toNatClampNeg : Int32) = (u.2.1 1251 (y : Int32).toNatClampNeg)) (c32_33 : y ≤ (x : Int32)) (c43_34 : (y : Int32) = x) (hb_42 : 0 ≤ (u.2.1 1248 (x : Int32).toNatClampNeg) ∧ (u.2.1 1248 (x : Int32).toNatClampNeg) < u.1 1232) (hs_43 : 0 ≤ u.1 1232 ∧ u.1 1232 ≤ 20) : vp_in (u.2.1 1248 (x : Int32).toNatClampNeg) 20 := by
  have hz1247 := hI.1.s1247
  refine g_in ?_ ?_ <;> ((try simp only [Int32.lt_iff_toInt_lt, Int32.le_iff_toInt_le, ← Int32.toInt_inj, Int32.toInt_add, Int32.toInt_sub, Int32.toInt_mul, Int32.toInt_neg, Int32.reduceToInt, g_bm, g_bm'] at *); omega)
set_option maxRecDepth 100000 in
theorem g_X12_areBoth_v92 (u : qS) (x : Int32) (y : Int32) (hI : IM u) (hx : 0 ≤ x ∧ x < u.1 1247) (hy : 0 ≤ y ∧ y < u.1 1247) (hys : u.1 1247 ≤ 120) (c12_1 : ¬ (u.2.1 1251 (x : Int32).toNatClampNeg : Int32) < (u.2.1 1251 (y : Int32).toNatClampNeg)) (c27_17 : (u.2.1 1251 (x : Int32).toNatClampNeg : Int32) = (u.2.1 1251 (y : Int32).toNatClampNeg)) (c32_33 : y ≤ (x : Int32)) (c43_34 : (y : Int32) = x) (hb_42 : 0 ≤ (u.2.1 1248 (x : Int32).toNatClampNeg) ∧ (u.2.1 1248 (x : Int32).toNatClampNeg) < u.1 1232) (hs_43 : 0 ≤ u.1 1232 ∧ u.1 1232 ≤ 20) : vp_in (x) 120 := by
  have hz1247 := hI.1.s1247
  refine g_in ?_ ?_ <;> ((try simp only [Int32.lt_iff_toInt_lt, Int32.le_iff_toInt_le, ← Int32.toInt_inj, Int32.toInt_add, Int32.toInt_sub, Int32.toInt_mul, Int32.toInt_neg, Int32.reduceToInt, g_bm, g_bm'] at *); omega)
set_option maxRecDepth 100000 in
theorem g_X12_areBoth_v93 (u : qS) (x : Int32) (y : Int32) (hI : IM u) (hx : 0 ≤ x ∧ x < u.1 1247) (hy : 0 ≤ y ∧ y < u.1 1247) (hys : u.1 1247 ≤ 120) (c12_1 : ¬ (u.2.1 1251 (x : Int32).toNatClampNeg : Int32) < (u.2.1 1251 (y : Int32).toNatClampNeg)) (c27_17 : (u.2.1 1251 (x : Int32).toNatClampNeg : Int32) = (u.2.1 1251 (y : Int32).toNatClampNeg)) (c32_33 : y ≤ (x : Int32)) (c43_34 : (y : Int32) = x) (hb_42 : 0 ≤ (u.2.1 1248 (x : Int32).toNatClampNeg) ∧ (u.2.1 1248 (x : Int32).toNatClampNeg) < u.1 1232) (hs_43 : 0 ≤ u.1 1232 ∧ u.1 1232 ≤ 20) : 0 ≤ x ∧ x < u.1 1247 := by
  have hz1247 := hI.1.s1247
  first | omega | ((try simp only [Int32.lt_iff_toInt_lt, Int32.le_iff_toInt_le, ← Int32.toInt_inj, Int32.toInt_add, Int32.toInt_sub, Int32.toInt_mul, Int32.toInt_neg, Int32.reduceToInt, g_bm, g_bm'] at *); omega) | (simp only [Int32.lt_iff_toInt_lt, Int32.le_iff_toInt_le, ← Int32.toInt_inj, Int32.toInt_add, Int32.toInt_sub, Int32.toInt_mul, Int32.toInt_neg, Int32.reduceToInt, g_bm, g_bm'] at *; simp at *; omega) | (simp_all; done)
set_option maxRecDepth 100000 in
theorem g_X12_areBoth_v94 (u : qS) (x : Int32) (y : Int32) (hI : IM u) (hx : 0 ≤ x ∧ x < u.1 1247) (hy : 0 ≤ y ∧ y < u.1 1247) (hys : u.1 1247 ≤ 120) (c12_1 : ¬ (u.2.1 1251 (x : Int32).toNatClampNeg : Int32) < (u.2.1 1251 (y : Int32).toNatClampNeg)) (c27_17 : (u.2.1 1251 (x : Int32).toNatClampNeg : Int32) = (u.2.1 1251 (y : Int32).toNatClampNeg)) (c32_33 : y ≤ (x : Int32)) (c43_34 : (y : Int32) = x) (hb_42 : 0 ≤ (u.2.1 1248 (x : Int32).toNatClampNeg) ∧ (u.2.1 1248 (x : Int32).toNatClampNeg) < u.1 1232) (hs_43 : 0 ≤ u.1 1232 ∧ u.1 1232 ≤ 20) : vp_in (u.2.1 1248 (x : Int32).toNatClampNeg) 20 := by
  have hz1247 := hI.1.s1247
  refine g_in ?_ ?_ <;> ((try simp only [Int32.lt_iff_toInt_lt, Int32.le_iff_toInt_le, ← Int32.toInt_inj, Int32.toInt_add, Int32.toInt_sub, Int32.toInt_mul, Int32.toInt_neg, Int32.reduceToInt, g_bm, g_bm'] at *); omega)
set_option maxRecDepth 100000 in
theorem g_X12_areBoth_v95 (u : qS) (x : Int32) (y : Int32) (hI : IM u) (hx : 0 ≤ x ∧ x < u.1 1247) (hy : 0 ≤ y ∧ y < u.1 1247) (hys : u.1 1247 ≤ 120) (c12_1 : ¬ (u.2.1 1251 (x : Int32).toNatClampNeg : Int32) < (u.2.1 1251 (y : Int32).toNatClampNeg)) (c27_17 : (u.2.1 1251 (x : Int32).toNatClampNeg : Int32) = (u.2.1 1251 (y : Int32).toNatClampNeg)) (c32_33 : y ≤ (x : Int32)) (c43_34 : (y : Int32) = x) (hb_42 : 0 ≤ (u.2.1 1248 (x : Int32).toNatClampNeg) ∧ (u.2.1 1248 (x : Int32).toNatClampNeg) < u.1 1232) (hs_43 : 0 ≤ u.1 1232 ∧ u.1 1232 ≤ 20) : vp_in (y) 120 := by
  have hz1247 := hI.1.s1247
  refine g_in ?_ ?_ <;> ((try simp only [Int32.lt_iff_toInt_lt, Int32.le_iff_toInt_le, ← Int32.toInt_inj, Int32.toInt_add, Int32.toInt_sub, Int32.toInt_mul, Int32.toInt_neg, Int32.reduceToInt, g_bm, g_bm'] at *); omega)
set_option maxRecDepth 100000 in
theorem g_X12_areBoth_v96 (u : qS) (x : Int32) (y : Int32) (hI : IM u) (hx : 0 ≤ x ∧ x < u.1 1247) (hy : 0 ≤ y ∧ y < u.1 1247) (hys : u.1 1247 ≤ 120) (c12_1 : ¬ (u.2.1 1251 (x : Int32).toNatClampNeg : Int32) < (u.2.1 1251 (y : Int32).toNatClampNeg)) (c27_17 : (u.2.1 1251 (x : Int32).toNatClampNeg : Int32) = (u.2.1 1251 (y : Int32).toNatClampNeg)) (c32_33 : y ≤ (x : Int32)) (c43_34 : (y : Int32) = x) (hb_42 : 0 ≤ (u.2.1 1248 (x : Int32).toNatClampNeg) ∧ (u.2.1 1248 (x : Int32).toNatClampNeg) < u.1 1232) (hs_43 : 0 ≤ u.1 1232 ∧ u.1 1232 ≤ 20) : 0 ≤ y ∧ y < u.1 1247 := by
  have hz1247 := hI.1.s1247
  first | omega | ((try simp only [Int32.lt_iff_toInt_lt, Int32.le_iff_toInt_le, ← Int32.toInt_inj, Int32.toInt_add, Int32.toInt_sub, Int32.toInt_mul, Int32.toInt_neg, Int32.reduceToInt, g_bm, g_bm'] at *); omega) | (simp only [Int32.lt_iff_toInt_lt, Int32.le_iff_toInt_le, ← Int32.toInt_inj, Int32.toInt_add, Int32.toInt_sub, Int32.toInt_mul, Int32.toInt_neg, Int32.reduceToInt, g_bm, g_bm'] at *; simp at *; omega) | (simp_all; done)
set_option maxRecDepth 100000 in
theorem g_X12_areBoth_v97 (u : qS) (x : Int32) (y : Int32) (hI : IM u) (hx : 0 ≤ x ∧ x < u.1 1247) (hy : 0 ≤ y ∧ y < u.1 1247) (hys : u.1 1247 ≤ 120) (c12_1 : ¬ (u.2.1 1251 (x : Int32).toNatClampNeg : Int32) < (u.2.1 1251 (y : Int32).toNatClampNeg)) (c27_17 : (u.2.1 1251 (x : Int32).toNatClampNeg : Int32) = (u.2.1 1251 (y : Int32).toNatClampNeg)) (c32_33 : y ≤ (x : Int32)) (c43_34 : (y : Int32) = x) (hb_42 : 0 ≤ (u.2.1 1248 (x : Int32).toNatClampNeg) ∧ (u.2.1 1248 (x : Int32).toNatClampNeg) < u.1 1232) (hs_43 : 0 ≤ u.1 1232 ∧ u.1 1232 ≤ 20) (hb_44 : 0 ≤ (u.2.1 1248 (y : Int32).toNatClampNeg) ∧ (u.2.1 1248 (y : Int32).toNatClampNeg) < u.1 1232) : vp_in (u.2.1 1248 (y : Int32).toNatClampNeg) 20 := by
  have hz1247 := hI.1.s1247
  refine g_in ?_ ?_ <;> ((try simp only [Int32.lt_iff_toInt_lt, Int32.le_iff_toInt_le, ← Int32.toInt_inj, Int32.toInt_add, Int32.toInt_sub, Int32.toInt_mul, Int32.toInt_neg, Int32.reduceToInt, g_bm, g_bm'] at *); omega)
set_option maxRecDepth 100000 in
theorem g_X12_areBoth_v98 (u : qS) (x : Int32) (y : Int32) (hI : IM u) (hx : 0 ≤ x ∧ x < u.1 1247) (hy : 0 ≤ y ∧ y < u.1 1247) (hys : u.1 1247 ≤ 120) (c12_1 : ¬ (u.2.1 1251 (x : Int32).toNatClampNeg : Int32) < (u.2.1 1251 (y : Int32).toNatClampNeg)) (c27_17 : (u.2.1 1251 (x : Int32).toNatClampNeg : Int32) = (u.2.1 1251 (y : Int32).toNatClampNeg)) (c32_33 : y ≤ (x : Int32)) (c43_34 : (y : Int32) = x) (hb_42 : 0 ≤ (u.2.1 1248 (x : Int32).toNatClampNeg) ∧ (u.2.1 1248 (x : Int32).toNatClampNeg) < u.1 1232) (hs_43 : 0 ≤ u.1 1232 ∧ u.1 1232 ≤ 20) (hb_44 : 0 ≤ (u.2.1 1248 (y : Int32).toNatClampNeg) ∧ (u.2.1 1248 (y : Int32).toNatClampNeg) < u.1 1232) : vp_in (y) 120 := by
  have hz1247 := hI.1.s1247
  refine g_in ?_ ?_ <;> ((try simp only [Int32.lt_iff_toInt_lt, Int32.le_iff_toInt_le, ← Int32.toInt_inj, Int32.toInt_add, Int32.toInt_sub, Int32.toInt_mul, Int32.toInt_neg, Int32.reduceToInt, g_bm, g_bm'] at *); omega)
set_option maxRecDepth 100000 in
theorem g_X12_areBoth_v99 (u : qS) (x : Int32) (y : Int32) (hI : IM u) (hx : 0 ≤ x ∧ x < u.1 1247) (hy : 0 ≤ y ∧ y < u.1 1247) (hys : u.1 1247 ≤ 120) (c12_1 : ¬ (u.2.1 1251 (x : Int32).toNatClampNeg : Int32) < (u.2.1 1251 (y : Int32).toNatClampNeg)) (c27_17 : (u.2.1 1251 (x : Int32).toNatClampNeg : Int32) = (u.2.1 1251 (y : Int32).toNatClampNeg)) (c32_33 : y ≤ (x : Int32)) (c43_34 : (y : Int32) = x) (hb_42 : 0 ≤ (u.2.1 1248 (x : Int32).toNatClampNeg) ∧ (u.2.1 1248 (x : Int32).toNatClampNeg) < u.1 1232) (hs_43 : 0 ≤ u.1 1232 ∧ u.1 1232 ≤ 20) (hb_44 : 0 ≤ (u.2.1 1248 (y : Int32).toNatClampNeg) ∧ (u.2.1 1248 (y : Int32).toNatClampNeg) < u.1 1232) : 0 ≤ y ∧ y < u.1 1247 := by
  have hz1247 := hI.1.s1247
  first | omega | ((try simp only [Int32.lt_iff_toInt_lt, Int32.le_iff_toInt_le, ← Int32.toInt_inj, Int32.toInt_add, Int32.toInt_sub, Int32.toInt_mul, Int32.toInt_neg, Int32.reduceToInt, g_bm, g_bm'] at *); omega) | (simp only [Int32.lt_iff_toInt_lt, Int32.le_iff_toInt_le, ← Int32.toInt_inj, Int32.toInt_add, Int32.toInt_sub, Int32.toInt_mul, Int32.toInt_neg, Int32.reduceToInt, g_bm, g_bm'] at *; simp at *; omega) | (simp_all; done)
set_option maxRecDepth 100000 in
theorem g_X12_areBoth_v100 (u : qS) (x : Int32) (y : Int32) (hI : IM u) (hx : 0 ≤ x ∧ x < u.1 1247) (hy : 0 ≤ y ∧ y < u.1 1247) (hys : u.1 1247 ≤ 120) (c12_1 : ¬ (u.2.1 1251 (x : Int32).toNatClampNeg : Int32) < (u.2.1 1251 (y : Int32).toNatClampNeg)) (c27_17 : (u.2.1 1251 (x : Int32).toNatClampNeg : Int32) = (u.2.1 1251 (y : Int32).toNatClampNeg)) (c32_33 : y ≤ (x : Int32)) (c43_34 : (y : Int32) = x) (hb_42 : 0 ≤ (u.2.1 1248 (x : Int32).toNatClampNeg) ∧ (u.2.1 1248 (x : Int32).toNatClampNeg) < u.1 1232) (hs_43 : 0 ≤ u.1 1232 ∧ u.1 1232 ≤ 20) (hb_44 : 0 ≤ (u.2.1 1248 (y : Int32).toNatClampNeg) ∧ (u.2.1 1248 (y : Int32).toNatClampNeg) < u.1 1232) : vp_in (u.2.1 1248 (y : Int32).toNatClampNeg) 20 := by
  have hz1247 := hI.1.s1247
  refine g_in ?_ ?_ <;> ((try simp only [Int32.lt_iff_toInt_lt, Int32.le_iff_toInt_le, ← Int32.toInt_inj, Int32.toInt_add, Int32.toInt_sub, Int32.toInt_mul, Int32.toInt_neg, Int32.reduceToInt, g_bm, g_bm'] at *); omega)
set_option maxRecDepth 100000 in
theorem g_X12_areBoth_v101 (u : qS) (x : Int32) (y : Int32) (hI : IM u) (hx : 0 ≤ x ∧ x < u.1 1247) (hy : 0 ≤ y ∧ y < u.1 1247) (hys : u.1 1247 ≤ 120) (c12_1 : ¬ (u.2.1 1251 (x : Int32).toNatClampNeg : Int32) < (u.2.1 1251 (y : Int32).toNatClampNeg)) (c27_17 : (u.2.1 1251 (x : Int32).toNatClampNeg : Int32) = (u.2.1 1251 (y : Int32).toNatClampNeg)) (c32_33 : y ≤ (x : Int32)) (c43_34 : (y : Int32) = x) (hb_42 : 0 ≤ (u.2.1 1248 (x : Int32).toNatClampNeg) ∧ (u.2.1 1248 (x : Int32).toNatClampNeg) < u.1 1232) (hs_43 : 0 ≤ u.1 1232 ∧ u.1 1232 ≤ 20) (hb_44 : 0 ≤ (u.2.1 1248 (y : Int32).toNatClampNeg) ∧ (u.2.1 1248 (y : Int32).toNatClampNeg) < u.1 1232) : vp_in (y) 120 := by
  have hz1247 := hI.1.s1247
  refine g_in ?_ ?_ <;> ((try simp only [Int32.lt_iff_toInt_lt, Int32.le_iff_toInt_le, ← Int32.toInt_inj, Int32.toInt_add, Int32.toInt_sub, Int32.toInt_mul, Int32.toInt_neg, Int32.reduceToInt, g_bm, g_bm'] at *); omega)
set_option maxRecDepth 100000 in
theorem g_X12_areBoth_v102 (u : qS) (x : Int32) (y : Int32) (hI : IM u) (hx : 0 ≤ x ∧ x < u.1 1247) (hy : 0 ≤ y ∧ y < u.1 1247) (hys : u.1 1247 ≤ 120) (c12_1 : ¬ (u.2.1 1251 (x : Int32).toNatClampNeg : Int32) < (u.2.1 1251 (y : Int32).toNatClampNeg)) (c27_17 : (u.2.1 1251 (x : Int32).toNatClampNeg : Int32) = (u.2.1 1251 (y : Int32).toNatClampNeg)) (c32_33 : y ≤ (x : Int32)) (c43_34 : (y : Int32) = x) (hb_42 : 0 ≤ (u.2.1 1248 (x : Int32).toNatClampNeg) ∧ (u.2.1 1248 (x : Int32).toNatClampNeg) < u.1 1232) (hs_43 : 0 ≤ u.1 1232 ∧ u.1 1232 ≤ 20) (hb_44 : 0 ≤ (u.2.1 1248 (y : Int32).toNatClampNeg) ∧ (u.2.1 1248 (y : Int32).toNatClampNeg) < u.1 1232) : vp_in (y) 120 := by
  have hz1247 := hI.1.s1247
  refine g_in ?_ ?_ <;> ((try simp only [Int32.lt_iff_toInt_lt, Int32.le_iff_toInt_le, ← Int32.toInt_inj, Int32.toInt_add, Int32.toInt_sub, Int32.toInt_mul, Int32.toInt_neg, Int32.reduceToInt, g_bm, g_bm'] at *); omega)
set_option maxRecDepth 100000 in
theorem g_X12_areBoth_v103 (u : qS) (x : Int32) (y : Int32) (hI : IM u) (hx : 0 ≤ x ∧ x < u.1 1247) (hy : 0 ≤ y ∧ y < u.1 1247) (hys : u.1 1247 ≤ 120) (c12_1 : ¬ (u.2.1 1251 (x : Int32).toNatClampNeg : Int32) < (u.2.1 1251 (y : Int32).toNatClampNeg)) (c27_17 : (u.2.1 1251 (x : Int32).toNatClampNeg : Int32) = (u.2.1 1251 (y : Int32).toNatClampNeg)) (c32_33 : y ≤ (x : Int32)) (c43_34 : (y : Int32) = x) (hb_42 : 0 ≤ (u.2.1 1248 (x : Int32).toNatClampNeg) ∧ (u.2.1 1248 (x : Int32).toNatClampNeg) < u.1 1232) (hs_43 : 0 ≤ u.1 1232 ∧ u.1 1232 ≤ 20) (hb_44 : 0 ≤ (u.2.1 1248 (y : Int32).toNatClampNeg) ∧ (u.2.1 1248 (y : Int32).toNatClampNeg) < u.1 1232) : vp_in (y) 120 := by
  have hz1247 := hI.1.s1247
  refine g_in ?_ ?_ <;> ((try simp only [Int32.lt_iff_toInt_lt, Int32.le_iff_toInt_le, ← Int32.toInt_inj, Int32.toInt_add, Int32.toInt_sub, Int32.toInt_mul, Int32.toInt_neg, Int32.reduceToInt, g_bm, g_bm'] at *); omega)
set_option maxRecDepth 100000 in
theorem g_X12_areBoth_v104 (u : qS) (x : Int32) (y : Int32) (r_47 : Int32) (hI : IM u) (hx : 0 ≤ x ∧ x < u.1 1247) (hy : 0 ≤ y ∧ y < u.1 1247) (hys : u.1 1247 ≤ 120) (c12_1 : ¬ (u.2.1 1251 (x : Int32).toNatClampNeg : Int32) < (u.2.1 1251 (y : Int32).toNatClampNeg)) (c27_17 : (u.2.1 1251 (x : Int32).toNatClampNeg : Int32) = (u.2.1 1251 (y : Int32).toNatClampNeg)) (c32_33 : y ≤ (x : Int32)) (c43_34 : (y : Int32) = x) (hb_42 : 0 ≤ (u.2.1 1248 (x : Int32).toNatClampNeg) ∧ (u.2.1 1248 (x : Int32).toNatClampNeg) < u.1 1232) (hs_43 : 0 ≤ u.1 1232 ∧ u.1 1232 ≤ 20) (hb_44 : 0 ≤ (u.2.1 1248 (y : Int32).toNatClampNeg) ∧ (u.2.1 1248 (y : Int32).toNatClampNeg) < u.1 1232) (c130_48 : (u.2.1 1251 (y : Int32).toNatClampNeg : Int32) < (((u.2.1 1251 (y : Int32).toNatClampNeg) + (u.2.1 1252 (y : Int32).toNatClampNeg)) + ((u.1 1242) * r_47))) : (0 : Int32) = 1 ∨ (0 : Int32) = 0 := by
  have hz1247 := hI.1.s1247
  first | omega | ((try simp only [Int32.lt_iff_toInt_lt, Int32.le_iff_toInt_le, ← Int32.toInt_inj, Int32.toInt_add, Int32.toInt_sub, Int32.toInt_mul, Int32.toInt_neg, Int32.reduceToInt, g_bm, g_bm'] at *); omega) | (simp only [Int32.lt_iff_toInt_lt, Int32.le_iff_toInt_le, ← Int32.toInt_inj, Int32.toInt_add, Int32.toInt_sub, Int32.toInt_mul, Int32.toInt_neg, Int32.reduceToInt, g_bm, g_bm'] at *; simp at *; omega) | (simp_all; done)
set_option maxRecDepth 100000 in
theorem g_X12_areBoth_v105 (u : qS) (x : Int32) (y : Int32) (r_47 : Int32) (hI : IM u) (hx : 0 ≤ x ∧ x < u.1 1247) (hy : 0 ≤ y ∧ y < u.1 1247) (hys : u.1 1247 ≤ 120) (c12_1 : ¬ (u.2.1 1251 (x : Int32).toNatClampNeg : Int32) < (u.2.1 1251 (y : Int32).toNatClampNeg)) (c27_17 : (u.2.1 1251 (x : Int32).toNatClampNeg : Int32) = (u.2.1 1251 (y : Int32).toNatClampNeg)) (c32_33 : y ≤ (x : Int32)) (c43_34 : (y : Int32) = x) (hb_42 : 0 ≤ (u.2.1 1248 (x : Int32).toNatClampNeg) ∧ (u.2.1 1248 (x : Int32).toNatClampNeg) < u.1 1232) (hs_43 : 0 ≤ u.1 1232 ∧ u.1 1232 ≤ 20) (hb_44 : 0 ≤ (u.2.1 1248 (y : Int32).toNatClampNeg) ∧ (u.2.1 1248 (y : Int32).toNatClampNeg) < u.1 1232) (c130_48 : ¬ (u.2.1 1251 (y : Int32).toNatClampNeg : Int32) < (((u.2.1 1251 (y : Int32).toNatClampNeg) + (u.2.1 1252 (y : Int32).toNatClampNeg)) + ((u.1 1242) * r_47))) : (1 : Int32) = 1 ∨ (1 : Int32) = 0 := by
  have hz1247 := hI.1.s1247
  first | omega | ((try simp only [Int32.lt_iff_toInt_lt, Int32.le_iff_toInt_le, ← Int32.toInt_inj, Int32.toInt_add, Int32.toInt_sub, Int32.toInt_mul, Int32.toInt_neg, Int32.reduceToInt, g_bm, g_bm'] at *); omega) | (simp only [Int32.lt_iff_toInt_lt, Int32.le_iff_toInt_le, ← Int32.toInt_inj, Int32.toInt_add, Int32.toInt_sub, Int32.toInt_mul, Int32.toInt_neg, Int32.reduceToInt, g_bm, g_bm'] at *; simp at *; omega) | (simp_all; done)
set_option maxRecDepth 100000 in
theorem g_X12_areBoth_v106 (u : qS) (x : Int32) (y : Int32) (hI : IM u) (hx : 0 ≤ x ∧ x < u.1 1247) (hy : 0 ≤ y ∧ y < u.1 1247) (hys : u.1 1247 ≤ 120) (c12_1 : ¬ (u.2.1 1251 (x : Int32).toNatClampNeg : Int32) < (u.2.1 1251 (y : Int32).toNatClampNeg)) (c27_17 : (u.2.1 1251 (x : Int32).toNatClampNeg : Int32) = (u.2.1 1251 (y : Int32).toNatClampNeg)) (c32_33 : ¬ y ≤ (x : Int32)) (c43_49 : ¬ (x : Int32) = x) : vp_in (x) 120 := by
  have hz1247 := hI.1.s1247
  refine g_in ?_ ?_ <;> ((try simp only [Int32.lt_iff_toInt_lt, Int32.le_iff_toInt_le, ← Int32.toInt_inj, Int32.toInt_add, Int32.toInt_sub, Int32.toInt_mul, Int32.toInt_neg, Int32.reduceToInt, g_bm, g_bm'] at *); omega)
set_option maxRecDepth 100000 in
theorem g_X12_areBoth_v107 (u : qS) (x : Int32) (y : Int32) (hI : IM u) (hx : 0 ≤ x ∧ x < u.1 1247) (hy : 0 ≤ y ∧ y < u.1 1247) (hys : u.1 1247 ≤ 120) (c12_1 : ¬ (u.2.1 1251 (x : Int32).toNatClampNeg : Int32) < (u.2.1 1251 (y : Int32).toNatClampNeg)) (c27_17 : (u.2.1 1251 (x : Int32).toNatClampNeg : Int32) = (u.2.1 1251 (y : Int32).toNatClampNeg)) (c32_33 : ¬ y ≤ (x : Int32)) (c43_49 : ¬ (x : Int32) = x) : 0 ≤ x ∧ x < u.1 1247 := by
  have hz1247 := hI.1.s1247
  first | omega | ((try simp only [Int32.lt_iff_toInt_lt, Int32.le_iff_toInt_le, ← Int32.toInt_inj, Int32.toInt_add, Int32.toInt_sub, Int32.toInt_mul, Int32.toInt_neg, Int32.reduceToInt, g_bm, g_bm'] at *); omega) | (simp only [Int32.lt_iff_toInt_lt, Int32.le_iff_toInt_le, ← Int32.toInt_inj, Int32.toInt_add, Int32.toInt_sub, Int32.toInt_mul, Int32.toInt_neg, Int32.reduceToInt, g_bm, g_bm'] at *; simp at *; omega) | (simp_all; done)
set_option maxRecDepth 100000 in
theorem g_X12_areBoth_v108 (u : qS) (x : Int32) (y : Int32) (hI : IM u) (hx : 0 ≤ x ∧ x < u.1 1247) (hy : 0 ≤ y ∧ y < u.1 1247) (hys : u.1 1247 ≤ 120) (c12_1 : ¬ (u.2.1 1251 (x : Int32).toNatClampNeg : Int32) < (u.2.1 1251 (y : Int32).toNatClampNeg)) (c27_17 : (u.2.1 1251 (x : Int32).toNatClampNeg : Int32) = (u.2.1 1251 (y : Int32).toNatClampNeg)) (c32_33 : ¬ y ≤ (x : Int32)) (c43_49 : ¬ (x : Int32) = x) (hb_50 : 0 ≤ (u.2.1 1248 (x : Int32).toNatClampNeg) ∧ (u.2.1 1248 (x : Int32).toNatClampNeg) < u.1 1232) (hs_51 : 0 ≤ u.1 1232 ∧ u.1 1232 ≤ 20) : vp_in (u.2.1 1248 (x : Int32).toNatClampNeg) 20 := by
  have hz1247 := hI.1.s1247
  refine g_in ?_ ?_ <;> ((try simp only [Int32.lt_iff_toInt_lt, Int32.le_iff_toInt_le, ← Int32.toInt_inj, Int32.toInt_add, Int32.toInt_sub, Int32.toInt_mul, Int32.toInt_neg, Int32.reduceToInt, g_bm, g_bm'] at *); omega)
set_option maxRecDepth 100000 in
theorem g_X12_areBoth_v109 (u : qS) (x : Int32) (y : Int32) (hI : IM u) (hx : 0 ≤ x ∧ x < u.1 1247) (hy : 0 ≤ y ∧ y < u.1 1247) (hys : u.1 1247 ≤ 120) (c12_1 : ¬ (u.2.1 1251 (x : Int32).toNatClampNeg : Int32) < (u.2.1 1251 (y : Int32).toNatClampNeg)) (c27_17 : (u.2.1 1251 (x : Int32).toNatClampNeg : Int32) = (u.2.1 1251 (y : Int32).toNatClampNeg)) (c32_33 : ¬ y ≤ (x : Int32)) (c43_49 : ¬ (x : Int32) = x) (hb_50 : 0 ≤ (u.2.1 1248 (x : Int32).toNatClampNeg) ∧ (u.2.1 1248 (x : Int32).toNatClampNeg) < u.1 1232) (hs_51 : 0 ≤ u.1 1232 ∧ u.1 1232 ≤ 20) : vp_in (x) 120 := by
  have hz1247 := hI.1.s1247
  refine g_in ?_ ?_ <;> ((try simp only [Int32.lt_iff_toInt_lt, Int32.le_iff_toInt_le, ← Int32.toInt_inj, Int32.toInt_add, Int32.toInt_sub, Int32.toInt_mul, Int32.toInt_neg, Int32.reduceToInt, g_bm, g_bm'] at *); omega)
set_option maxRecDepth 100000 in
theorem g_X12_areBoth_v110 (u : qS) (x : Int32) (y : Int32) (hI : IM u) (hx : 0 ≤ x ∧ x < u.1 1247) (hy : 0 ≤ y ∧ y < u.1 1247) (hys : u.1 1247 ≤ 120) (c12_1 : ¬ (u.2.1 1251 (x : Int32).toNatClampNeg : Int32) < (u.2.1 1251 (y : Int32).toNatClampNeg)) (c27_17 : (u.2.1 1251 (x : Int32).toNatClampNeg : Int32) = (u.2.1 1251 (y : Int32).toNatClampNeg)) (c32_33 : ¬ y ≤ (x : Int32)) (c43_49 : ¬ (x : Int32) = x) (hb_50 : 0 ≤ (u.2.1 1248 (x : Int32).toNatClampNeg) ∧ (u.2.1 1248 (x : Int32).toNatClampNeg) < u.1 1232) (hs_51 : 0 ≤ u.1 1232 ∧ u.1 1232 ≤ 20) : 0 ≤ x ∧ x < u.1 1247 := by
  have hz1247 := hI.1.s1247
  first | omega | ((try simp only [Int32.lt_iff_toInt_lt, Int32.le_iff_toInt_le, ← Int32.toInt_inj, Int32.toInt_add, Int32.toInt_sub, Int32.toInt_mul, Int32.toInt_neg, Int32.reduceToInt, g_bm, g_bm'] at *); omega) | (simp only [Int32.lt_iff_toInt_lt, Int32.le_iff_toInt_le, ← Int32.toInt_inj, Int32.toInt_add, Int32.toInt_sub, Int32.toInt_mul, Int32.toInt_neg, Int32.reduceToInt, g_bm, g_bm'] at *; simp at *; omega) | (simp_all; done)
set_option maxRecDepth 100000 in
theorem g_X12_areBoth_v111 (u : qS) (x : Int32) (y : Int32) (hI : IM u) (hx : 0 ≤ x ∧ x < u.1 1247) (hy : 0 ≤ y ∧ y < u.1 1247) (hys : u.1 1247 ≤ 120) (c12_1 : ¬ (u.2.1 1251 (x : Int32).toNatClampNeg : Int32) < (u.2.1 1251 (y : Int32).toNatClampNeg)) (c27_17 : (u.2.1 1251 (x : Int32).toNatClampNeg : Int32) = (u.2.1 1251 (y : Int32).toNatClampNeg)) (c32_33 : ¬ y ≤ (x : Int32)) (c43_49 : ¬ (x : Int32) = x) (hb_50 : 0 ≤ (u.2.1 1248 (x : Int32).toNatClampNeg) ∧ (u.2.1 1248 (x : Int32).toNatClampNeg) < u.1 1232) (hs_51 : 0 ≤ u.1 1232 ∧ u.1 1232 ≤ 20) : vp_in (u.2.1 1248 (x : Int32).toNatClampNeg) 20 := by
  have hz1247 := hI.1.s1247
  refine g_in ?_ ?_ <;> ((try simp only [Int32.lt_iff_toInt_lt, Int32.le_iff_toInt_le, ← Int32.toInt_inj, Int32.toInt_add, Int32.toInt_sub, Int32.toInt_mul, Int32.toInt_neg, Int32.reduceToInt, g_bm, g_bm'] at *); omega)
set_option maxRecDepth 100000 in
theorem g_X12_areBoth_v112 (u : qS) (x : Int32) (y : Int32) (hI : IM u) (hx : 0 ≤ x ∧ x < u.1 1247) (hy : 0 ≤ y ∧ y < u.1 1247) (hys : u.1 1247 ≤ 120) (c12_1 : ¬ (u.2.1 1251 (x : Int32).toNatClampNeg : Int32) < (u.2.1 1251 (y : Int32).toNatClampNeg)) (c27_17 : (u.2.1 1251 (x : Int32).toNatClampNeg : Int32) = (u.2.1 1251 (y : Int32).toNatClampNeg)) (c32_33 : ¬ y ≤ (x : Int32)) (c43_49 : ¬ (x : Int32) = x) (hb_50 : 0 ≤ (u.2.1 1248 (x : Int32).toNatClampNeg) ∧ (u.2.1 1248 (x : Int32).toNatClampNeg) < u.1 1232) (hs_51 : 0 ≤ u.1 1232 ∧ u.1 1232 ≤ 20) : vp_in (y) 120 := by
  have hz1247 := hI.1.s1247
  refine g_in ?_ ?_ <;> ((try simp only [Int32.lt_iff_toInt_lt, Int32.le_iff_toInt_le, ← Int32.toInt_inj, Int32.toInt_add, Int32.toInt_sub, Int32.toInt_mul, Int32.toInt_neg, Int32.reduceToInt, g_bm, g_bm'] at *); omega)
set_option maxRecDepth 100000 in
theorem g_X12_areBoth_v113 (u : qS) (x : Int32) (y : Int32) (hI : IM u) (hx : 0 ≤ x ∧ x < u.1 1247) (hy : 0 ≤ y ∧ y < u.1 1247) (hys : u.1 1247 ≤ 120) (c12_1 : ¬ (u.2.1 1251 (x : Int32).toNatClampNeg : Int32) < (u.2.1 1251 (y : Int32).toNatClampNeg)) (c27_17 : (u.2.1 1251 (x : Int32).toNatClampNeg : Int32) = (u.2.1 1251 (y : Int32).toNatClampNeg)) (c32_33 : ¬ y ≤ (x : Int32)) (c43_49 : ¬ (x : Int32) = x) (hb_50 : 0 ≤ (u.2.1 1248 (x : Int32).toNatClampNeg) ∧ (u.2.1 1248 (x : Int32).toNatClampNeg) < u.1 1232) (hs_51 : 0 ≤ u.1 1232 ∧ u.1 1232 ≤ 20) : 0 ≤ y ∧ y < u.1 1247 := by
  have hz1247 := hI.1.s1247
  first | omega | ((try simp only [Int32.lt_iff_toInt_lt, Int32.le_iff_toInt_le, ← Int32.toInt_inj, Int32.toInt_add, Int32.toInt_sub, Int32.toInt_mul, Int32.toInt_neg, Int32.reduceToInt, g_bm, g_bm'] at *); omega) | (simp only [Int32.lt_iff_toInt_lt, Int32.le_iff_toInt_le, ← Int32.toInt_inj, Int32.toInt_add, Int32.toInt_sub, Int32.toInt_mul, Int32.toInt_neg, Int32.reduceToInt, g_bm, g_bm'] at *; simp at *; omega) | (simp_all; done)
set_option maxRecDepth 100000 in
theorem g_X12_areBoth_v114 (u : qS) (x : Int32) (y : Int32) (hI : IM u) (hx : 0 ≤ x ∧ x < u.1 1247) (hy : 0 ≤ y ∧ y < u.1 1247) (hys : u.1 1247 ≤ 120) (c12_1 : ¬ (u.2.1 1251 (x : Int32).toNatClampNeg : Int32) < (u.2.1 1251 (y : Int32).toNatClampNeg)) (c27_17 : (u.2.1 1251 (x : Int32).toNatClampNeg : Int32) = (u.2.1 1251 (y : Int32).toNatClampNeg)) (c32_33 : ¬ y ≤ (x : Int32)) (c43_49 : ¬ (x : Int32) = x) (hb_50 : 0 ≤ (u.2.1 1248 (x : Int32).toNatClampNeg) ∧ (u.2.1 1248 (x : Int32).toNatClampNeg) < u.1 1232) (hs_51 : 0 ≤ u.1 1232 ∧ u.1 1232 ≤ 20) (hb_52 : 0 ≤ (u.2.1 1248 (y : Int32).toNatClampNeg) ∧ (u.2.1 1248 (y : Int32).toNatClampNeg) < u.1 1232) : vp_in (u.2.1 1248 (y : Int32).toNatClampNeg) 20 := by
  have hz1247 := hI.1.s1247
  refine g_in ?_ ?_ <;> ((try simp only [Int32.lt_iff_toInt_lt, Int32.le_iff_toInt_le, ← Int32.toInt_inj, Int32.toInt_add, Int32.toInt_sub, Int32.toInt_mul, Int32.toInt_neg, Int32.reduceToInt, g_bm, g_bm'] at *); omega)
set_option maxRecDepth 100000 in
theorem g_X12_areBoth_v115 (u : qS) (x : Int32) (y : Int32) (hI : IM u) (hx : 0 ≤ x ∧ x < u.1 1247) (hy : 0 ≤ y ∧ y < u.1 1247) (hys : u.1 1247 ≤ 120) (c12_1 : ¬ (u.2.1 1251 (x : Int32).toNatClampNeg : Int32) < (u.2.1 1251 (y : Int32).toNatClampNeg)) (c27_17 : (u.2.1 1251 (x : Int32).toNatClampNeg : Int32) = (u.2.1 1251 (y : Int32).toNatClampNeg)) (c32_33 : ¬ y ≤ (x : Int32)) (c43_49 : ¬ (x : Int32) = x) (hb_50 : 0 ≤ (u.2.1 1248 (x : Int32).toNatClampNeg) ∧ (u.2.1 1248 (x : Int32).toNatClampNeg) < u.1 1232) (hs_51 : 0 ≤ u.1 1232 ∧ u.1 1232 ≤ 20) (hb_52 : 0 ≤ (u.2.1 1248 (y : Int32).toNatClampNeg) ∧ (u.2.1 1248 (y : Int32).toNatClampNeg) < u.1 1232) : vp_in (y) 120 := by
  have hz1247 := hI.1.s1247
  refine g_in ?_ ?_ <;> ((try simp only [Int32.lt_iff_toInt_lt, Int32.le_iff_toInt_le, ← Int32.toInt_inj, Int32.toInt_add, Int32.toInt_sub, Int32.toInt_mul, Int32.toInt_neg, Int32.reduceToInt, g_bm, g_bm'] at *); omega)
set_option maxRecDepth 100000 in
theorem g_X12_areBoth_v116 (u : qS) (x : Int32) (y : Int32) (hI : IM u) (hx : 0 ≤ x ∧ x < u.1 1247) (hy : 0 ≤ y ∧ y < u.1 1247) (hys : u.1 1247 ≤ 120) (c12_1 : ¬ (u.2.1 1251 (x : Int32).toNatClampNeg : Int32) < (u.2.1 1251 (y : Int32).toNatClampNeg)) (c27_17 : (u.2.1 1251 (x : Int32).toNatClampNeg : Int32) = (u.2.1 1251 (y : Int32).toNatClampNeg)) (c32_33 : ¬ y ≤ (x : Int32)) (c43_49 : ¬ (x : Int32) = x) (hb_50 : 0 ≤ (u.2.1 1248 (x : Int32).toNatClampNeg) ∧ (u.2.1 1248 (x : Int32).toNatClampNeg) < u.1 1232) (hs_51 : 0 ≤ u.1 1232 ∧ u.1 1232 ≤ 20) (hb_52 : 0 ≤ (u.2.1 1248 (y : Int32).toNatClampNeg) ∧ (u.2.1 1248 (y : Int32).toNatClampNeg) < u.1 1232) : 0 ≤ y ∧ y < u.1 1247 := by
  have hz1247 := hI.1.s1247
  first | omega | ((try simp only [Int32.lt_iff_toInt_lt, Int32.le_iff_toInt_le, ← Int32.toInt_inj, Int32.toInt_add, Int32.toInt_sub, Int32.toInt_mul, Int32.toInt_neg, Int32.reduceToInt, g_bm, g_bm'] at *); omega) | (simp only [Int32.lt_iff_toInt_lt, Int32.le_iff_toInt_le, ← Int32.toInt_inj, Int32.toInt_add, Int32.toInt_sub, Int32.toInt_mul, Int32.toInt_neg, Int32.reduceToInt, g_bm, g_bm'] at *; simp at *; omega) | (simp_all; done)
set_option maxRecDepth 100000 in
theorem g_X12_areBoth_v117 (u : qS) (x : Int32) (y : Int32) (hI : IM u) (hx : 0 ≤ x ∧ x < u.1 1247) (hy : 0 ≤ y ∧ y < u.1 1247) (hys : u.1 1247 ≤ 120) (c12_1 : ¬ (u.2.1 1251 (x : Int32).toNatClampNeg : Int32) < (u.2.1 1251 (y : Int32).toNatClampNeg)) (c27_17 : (u.2.1 1251 (x : Int32).toNatClampNeg : Int32) = (u.2.1 1251 (y : Int32).toNatClampNeg)) (c32_33 : ¬ y ≤ (x : Int32)) (c43_49 : ¬ (x : Int32) = x) (hb_50 : 0 ≤ (u.2.1 1248 (x : Int32).toNatClampNeg) ∧ (u.2.1 1248 (x : Int32).toNatClampNeg) < u.1 1232) (hs_51 : 0 ≤ u.1 1232 ∧ u.1 1232 ≤ 20) (hb_52 : 0 ≤ (u.2.1 1248 (y : Int32).toNatClampNeg) ∧ (u.2.1 1248 (y : Int32).toNatClampNeg) < u.1 1232) : vp_in (u.2.1 1248 (y : Int32).toNatClampNeg) 20 := by
  have hz1247 := hI.1.s1247
  refine g_in ?_ ?_ <;> ((try simp only [Int32.lt_iff_toInt_lt, Int32.le_iff_toInt_le, ← Int32.toInt_inj, Int32.toInt_add, Int32.toInt_sub, Int32.toInt_mul, Int32.toInt_neg, Int32.reduceToInt, g_bm, g_bm'] at *); omega)
set_option maxRecDepth 100000 in
theorem g_X12_areBoth_v118 (u : qS) (x : Int32) (y : Int32) (hI : IM u) (hx : 0 ≤ x ∧ x < u.1 1247) (hy : 0 ≤ y ∧ y < u.1 1247) (hys : u.1 1247 ≤ 120) (c12_1 : ¬ (u.2.1 1251 (x : Int32).toNatClampNeg : Int32) < (u.2.1 1251 (y : Int32).toNatClampNeg)) (c27_17 : (u.2.1 1251 (x : Int32).toNatClampNeg : Int32) = (u.2.1 1251 (y : Int32).toNatClampNeg)) (c32_33 : ¬ y ≤ (x : Int32)) (c43_49 : ¬ (x : Int32) = x) (hb_50 : 0 ≤ (u.2.1 1248 (x : Int32).toNatClampNeg) ∧ (u.2.1 1248 (x : Int32).toNatClampNeg) < u.1 1232) (hs_51 : 0 ≤ u.1 1232 ∧ u.1 1232 ≤ 20) (hb_52 : 0 ≤ (u.2.1 1248 (y : Int32).toNatClampNeg) ∧ (u.2.1 1248 (y : Int32).toNatClampNeg) < u.1 1232) : vp_in (x) 120 := by
  have hz1247 := hI.1.s1247
  refine g_in ?_ ?_ <;> ((try simp only [Int32.lt_iff_toInt_lt, Int32.le_iff_toInt_le, ← Int32.toInt_inj, Int32.toInt_add, Int32.toInt_sub, Int32.toInt_mul, Int32.toInt_neg, Int32.reduceToInt, g_bm, g_bm'] at *); omega)
set_option maxRecDepth 100000 in
theorem g_X12_areBoth_v119 (u : qS) (x : Int32) (y : Int32) (hI : IM u) (hx : 0 ≤ x ∧ x < u.1 1247) (hy : 0 ≤ y ∧ y < u.1 1247) (hys : u.1 1247 ≤ 120) (c12_1 : ¬ (u.2.1 1251 (x : Int32).toNatClampNeg : Int32) < (u.2.1 1251 (y : Int32).toNatClampNeg)) (c27_17 : (u.2.1 1251 (x : Int32).toNatClampNeg : Int32) = (u.2.1 1251 (y : Int32).toNatClampNeg)) (c32_33 : ¬ y ≤ (x : Int32)) (c43_49 : ¬ (x : Int32) = x) (hb_50 : 0 ≤ (u.2.1 1248 (x : Int32).toNatClampNeg) ∧ (u.2.1 1248 (x : Int32).toNatClampNeg) < u.1 1232) (hs_51 : 0 ≤ u.1 1232 ∧ u.1 1232 ≤ 20) (hb_52 : 0 ≤ (u.2.1 1248 (y : Int32).toNatClampNeg) ∧ (u.2.1 1248 (y : Int32).toNatClampNeg) < u.1 1232) : vp_in (x) 120 := by
  have hz1247 := hI.1.s1247
  refine g_in ?_ ?_ <;> ((try simp only [Int32.lt_iff_toInt_lt, Int32.le_iff_toInt_le, ← Int32.toInt_inj, Int32.toInt_add, Int32.toInt_sub, Int32.toInt_mul, Int32.toInt_neg, Int32.reduceToInt, g_bm, g_bm'] at *); omega)
set_option maxRecDepth 100000 in
theorem g_X12_areBoth_v120 (u : qS) (x : Int32) (y : Int32) (hI : IM u) (hx : 0 ≤ x ∧ x < u.1 1247) (hy : 0 ≤ y ∧ y < u.1 1247) (hys : u.1 1247 ≤ 120) (c12_1 : ¬ (u.2.1 1251 (x : Int32).toNatClampNeg : Int32) < (u.2.1 1251 (y : Int32).toNatClampNeg)) (c27_17 : (u.2.1 1251 (x : Int32).toNatClampNeg : Int32) = (u.2.1 1251 (y : Int32).toNatClampNeg)) (c32_33 : ¬ y ≤ (x : Int32)) (c43_49 : ¬ (x : Int32) = x) (hb_50 : 0 ≤ (u.2.1 1248 (x : Int32).toNatClampNeg) ∧ (u.2.1 1248 (x : Int32).toNatClampNeg) < u.1 1232) (hs_51 : 0 ≤ u.1 1232 ∧ u.1 1232 ≤ 20) (hb_52 : 0 ≤ (u.2.1 1248 (y : Int32).toNatClampNeg) ∧ (u.2.1 1248 (y : Int32).toNatClampNeg) < u.1 1232) : vp_in (x) 120 := by
  have hz1247 := hI.1.s1247
  refine g_in ?_ ?_ <;> ((try simp only [Int32.lt_iff_toInt_lt, Int32.le_iff_toInt_le, ← Int32.toInt_inj, Int32.toInt_add, Int32.toInt_sub, Int32.toInt_mul, Int32.toInt_neg, Int32.reduceToInt, g_bm, g_bm'] at *); omega)
set_option maxRecDepth 100000 in
theorem g_X12_areBoth_v121 (u : qS) (x : Int32) (y : Int32) (r_55 : Int32) (hI : IM u) (hx : 0 ≤ x ∧ x < u.1 1247) (hy : 0 ≤ y ∧ y < u.1 1247) (hys : u.1 1247 ≤ 120) (c12_1 : ¬ (u.2.1 1251 (x : Int32).toNatClampNeg : Int32) < (u.2.1 1251 (y : Int32).toNatClampNeg)) (c27_17 : (u.2.1 1251 (x : Int32).toNatClampNeg : Int32) = (u.2.1 1251 (y : Int32).toNatClampNeg)) (c32_33 : ¬ y ≤ (x : Int32)) (c43_49 : ¬ (x : Int32) = x) (hb_50 : 0 ≤ (u.2.1 1248 (x : Int32).toNatClampNeg) ∧ (u.2.1 1248 (x : Int32).toNatClampNeg) < u.1 1232) (hs_51 : 0 ≤ u.1 1232 ∧ u.1 1232 ≤ 20) (hb_52 : 0 ≤ (u.2.1 1248 (y : Int32).toNatClampNeg) ∧ (u.2.1 1248 (y : Int32).toNatClampNeg) < u.1 1232) (c130_56 : (u.2.1 1251 (x : Int32).toNatClampNeg : Int32) < (((u.2.1 1251 (x : Int32).toNatClampNeg) + (u.2.1 1252 (x : Int32).toNatClampNeg)) + ((u.1 1242) * r_55))) : (0 : Int32) = 1 ∨ (0 : Int32) = 0 := by
  have hz1247 := hI.1.s1247
  first | omega | ((try simp only [Int32.lt_iff_toInt_lt, Int32.le_iff_toInt_le, ← Int32.toInt_inj, Int32.toInt_add, Int32.toInt_sub, Int32.toInt_mul, Int32.toInt_neg, Int32.reduceToInt, g_bm, g_bm'] at *); omega) | (simp only [Int32.lt_iff_toInt_lt, Int32.le_iff_toInt_le, ← Int32.toInt_inj, Int32.toInt_add, Int32.toInt_sub, Int32.toInt_mul, Int32.toInt_neg, Int32.reduceToInt, g_bm, g_bm'] at *; simp at *; omega) | (simp_all; done)
set_option maxRecDepth 100000 in
theorem g_X12_areBoth_v122 (u : qS) (x : Int32) (y : Int32) (r_55 : Int32) (hI : IM u) (hx : 0 ≤ x ∧ x < u.1 1247) (hy : 0 ≤ y ∧ y < u.1 1247) (hys : u.1 1247 ≤ 120) (c12_1 : ¬ (u.2.1 1251 (x : Int32).toNatClampNeg : Int32) < (u.2.1 1251 (y : Int32).toNatClampNeg)) (c27_17 : (u.2.1 1251 (x : Int32).toNatClampNeg : Int32) = (u.2.1 1251 (y : Int32).toNatClampNeg)) (c32_33 : ¬ y ≤ (x : Int32)) (c43_49 : ¬ (x : Int32) = x) (hb_50 : 0 ≤ (u.2.1 1248 (x : Int32).toNatClampNeg) ∧ (u.2.1 1248 (x : Int32).toNatClampNeg) < u.1 1232) (hs_51 : 0 ≤ u.1 1232 ∧ u.1 1232 ≤ 20) (hb_52 : 0 ≤ (u.2.1 1248 (y : Int32).toNatClampNeg) ∧ (u.2.1 1248 (y : Int32).toNatClampNeg) < u.1 1232) (c130_56 : ¬ (u.2.1 1251 (x : Int32).toNatClampNeg : Int32) < (((u.2.1 1251 (x : Int32).toNatClampNeg) + (u.2.1 1252 (x : Int32).toNatClampNeg)) + ((u.1 1242) * r_55))) : (1 : Int32) = 1 ∨ (1 : Int32) = 0 := by
  have hz1247 := hI.1.s1247
  first | omega | ((try simp only [Int32.lt_iff_toInt_lt, Int32.le_iff_toInt_le, ← Int32.toInt_inj, Int32.toInt_add, Int32.toInt_sub, Int32.toInt_mul, Int32.toInt_neg, Int32.reduceToInt, g_bm, g_bm'] at *); omega) | (simp only [Int32.lt_iff_toInt_lt, Int32.le_iff_toInt_le, ← Int32.toInt_inj, Int32.toInt_add, Int32.toInt_sub, Int32.toInt_mul, Int32.toInt_neg, Int32.reduceToInt, g_bm, g_bm'] at *; simp at *; omega) | (simp_all; done)
set_option maxRecDepth 100000 in
theorem g_X12_areBoth_v123 (u : qS) (x : Int32) (y : Int32) (hI : IM u) (hx : 0 ≤ x ∧ x < u.1 1247) (hy : 0 ≤ y ∧ y < u.1 1247) (hys : u.1 1247 ≤ 120) (c12_1 : ¬ (u.2.1 1251 (x : Int32).toNatClampNeg : Int32) < (u.2.1 1251 (y : Int32).toNatClampNeg)) (c27_17 : (u.2.1 1251 (x : Int32).toNatClampNeg : Int32) = (u.2.1 1251 (y : Int32).toNatClampNeg)) (c32_33 : ¬ y ≤ (x : Int32)) (c43_49 : (x : Int32) = x) : vp_in (x) 120 := by
  have hz1247 := hI.1.s1247
  refine g_in ?_ ?_ <;> ((try simp only [Int32.lt_iff_toInt_lt, Int32.le_iff_toInt_le, ← Int32.toInt_inj, Int32.toInt_add, Int32.toInt_sub, Int32.toInt_mul, Int32.toInt_neg, Int32.reduceToInt, g_bm, g_bm'] at *); omega)
set_option maxRecDepth 100000 in
theorem g_X12_areBoth_v124 (u : qS) (x : Int32) (y : Int32) (hI : IM u) (hx : 0 ≤ x ∧ x < u.1 1247) (hy : 0 ≤ y ∧ y < u.1 1247) (hys : u.1 1247 ≤ 120) (c12_1 : ¬ (u.2.1 1251 (x : Int32).toNatClampNeg : Int32) < (u.2.1 1251 (y : Int32).toNatClampNeg)) (c27_17 : (u.2.1 1251 (x : Int32).toNatClampNeg : Int32) = (u.2.1 1251 (y : Int32).toNatClampNeg)) (c32_33 : ¬ y ≤ (x : Int32)) (c43_49 : (x : Int32) = x) : 0 ≤ x ∧ x < u.1 1247 := by
  have hz1247 := hI.1.s1247
  first | omega | ((try simp only [Int32.lt_iff_toInt_lt, Int32.le_iff_toInt_le, ← Int32.toInt_inj, Int32.toInt_add, Int32.toInt_sub, Int32.toInt_mul, Int32.toInt_neg, Int32.reduceToInt, g_bm, g_bm'] at *); omega) | (simp only [Int32.lt_iff_toInt_lt, Int32.le_iff_toInt_le, ← Int32.toInt_inj, Int32.toInt_add, Int32.toInt_sub, Int32.toInt_mul, Int32.toInt_neg, Int32.reduceToInt, g_bm, g_bm'] at *; simp at *; omega) | (simp_all; done)
set_option maxRecDepth 100000 in
theorem g_X12_areBoth_v125 (u : qS) (x : Int32) (y : Int32) (hI : IM u) (hx : 0 ≤ x ∧ x < u.1 1247) (hy : 0 ≤ y ∧ y < u.1 1247) (hys : u.1 1247 ≤ 120) (c12_1 : ¬ (u.2.1 1251 (x : Int32).toNatClampNeg : Int32) < (u.2.1 1251 (y : Int32).toNatClampNeg)) (c27_17 : (u.2.1 1251 (x : Int32).toNatClampNeg : Int32) = (u.2.1 1251 (y : Int32).toNatClampNeg)) (c32_33 : ¬ y ≤ (x : Int32)) (c43_49 : (x : Int32) = x) (hb_57 : 0 ≤ (u.2.1 1248 (x : Int32).toNatClampNeg) ∧ (u.2.1 1248 (x : Int32).toNatClampNeg) < u.1 1232) (hs_58 : 0 ≤ u.1 1232 ∧ u.1 1232 ≤ 20) : vp_in (u.2.1 1248 (x : Int32).toNatClampNeg) 20 := by
  have hz1247 := hI.1.s1247
  refine g_in ?_ ?_ <;> ((try simp only [Int32.lt_iff_toInt_lt, Int32.le_iff_toInt_le, ← Int32.toInt_inj, Int32.toInt_add, Int32.toInt_sub, Int32.toInt_mul, Int32.toInt_neg, Int32.reduceToInt, g_bm, g_bm'] at *); omega)
set_option maxRecDepth 100000 in
theorem g_X12_areBoth_v126 (u : qS) (x : Int32) (y : Int32) (hI : IM u) (hx : 0 ≤ x ∧ x < u.1 1247) (hy : 0 ≤ y ∧ y < u.1 1247) (hys : u.1 1247 ≤ 120) (c12_1 : ¬ (u.2.1 1251 (x : Int32).toNatClampNeg : Int32) < (u.2.1 1251 (y : Int32).toNatClampNeg)) (c27_17 : (u.2.1 1251 (x : Int32).toNatClampNeg : Int32) = (u.2.1 1251 (y : Int32).toNatClampNeg)) (c32_33 : ¬ y ≤ (x : Int32)) (c43_49 : (x : Int32) = x) (hb_57 : 0 ≤ (u.2.1 1248 (x : Int32).toNatClampNeg) ∧ (u.2.1 1248 (x : Int32).toNatClampNeg) < u.1 1232) (hs_58 : 0 ≤ u.1 1232 ∧ u.1 1232 ≤ 20) : vp_in (x) 120 := by
  have hz1247 := hI.1.s1247
  refine g_in ?_ ?_ <;> ((try simp only [Int32.lt_iff_toInt_lt, Int32.le_iff_toInt_le, ← Int32.toInt_inj, Int32.toInt_add, Int32.toInt_sub, Int32.toInt_mul, Int32.toInt_neg, Int32.reduceToInt, g_bm, g_bm'] at *); omega)
set_option maxRecDepth 100000 in
theorem g_X12_areBoth_v127 (u : qS) (x : Int32) (y : Int32) (hI : IM u) (hx : 0 ≤ x ∧ x < u.1 1247) (hy : 0 ≤ y ∧ y < u.1 1247) (hys : u.1 1247 ≤ 120) (c12_1 : ¬ (u.2.1 1251 (x : Int32).toNatClampNeg : Int32) < (u.2.1 1251 (y : Int32).toNatClampNeg)) (c27_17 : (u.2.1 1251 (x : Int32).toNatClampNeg : Int32) = (u.2.1 1251 (y : Int32).toNatClampNeg)) (c32_33 : ¬ y ≤ (x : Int32)) (c43_49 : (x : Int32) = x) (hb_57 : 0 ≤ (u.2.1 1248 (x : Int32).toNatClampNeg) ∧ (u.2.1 1248 (x : Int32).toNatClampNeg) < u.1 1232) (hs_58 : 0 ≤ u.1 1232 ∧ u.1 1232 ≤ 20) : 0 ≤ x ∧ x < u.1 1247 := by
  have hz1247 := hI.1.s1247
  first | omega | ((try simp only [Int32.lt_iff_toInt_lt, Int32.le_iff_toInt_le, ← Int32.toInt_inj, Int32.toInt_add, Int32.toInt_sub, Int32.toInt_mul, Int32.toInt_neg, Int32.reduceToInt, g_bm, g_bm'] at *); omega) | (simp only [Int32.lt_iff_toInt_lt, Int32.le_iff_toInt_le, ← Int32.toInt_inj, Int32.toInt_add, Int32.toInt_sub, Int32.toInt_mul, Int32.toInt_neg, Int32.reduceToInt, g_bm, g_bm'] at *; simp at *; omega) | (simp_all; done)
set_option maxRecDepth 100000 in
theorem g_X12_areBoth_v128 (u : qS) (x : Int32) (y : Int32) (hI : IM u) (hx : 0 ≤ x ∧ x < u.1 1247) (hy : 0 ≤ y ∧ y < u.1 1247) (hys : u.1 1247 ≤ 120) (c12_1 : ¬ (u.2.1 1251 (x : Int32).toNatClampNeg : Int32) < (u.2.1 1251 (y : Int32).toNatClampNeg)) (c27_17 : (u.2.1 1251 (x : Int32).toNatClampNeg : Int32) = (u.2.1 1251 (y : Int32).toNatClampNeg)) (c32_33 : ¬ y ≤ (x : Int32)) (c43_49 : (x : Int32) = x) (hb_57 : 0 ≤ (u.2.1 1248 (x : Int32).toNatClampNeg) ∧ (u.2.1 1248 (x : Int32).toNatClampNeg) < u.1 1232) (hs_58 : 0 ≤ u.1 1232 ∧ u.1 1232 ≤ 20) : vp_in (u.2.1 1248 (x : Int32).toNatClampNeg) 20 := by
  have hz1247 := hI.1.s1247
  refine g_in ?_ ?_ <;> ((try simp only [Int32.lt_iff_toInt_lt, Int32.le_iff_toInt_le, ← Int32.toInt_inj, Int32.toInt_add, Int32.toInt_sub, Int32.toInt_mul, Int32.toInt_neg, Int32.reduceToInt, g_bm, g_bm'] at *); omega)
set_option maxRecDepth 100000 in
theorem g_X12_areBoth_v129 (u : qS) (x : Int32) (y : Int32) (hI : IM u) (hx : 0 ≤ x ∧ x < u.1 1247) (hy : 0 ≤ y ∧ y < u.1 1247) (hys : u.1 1247 ≤ 120) (c12_1 : ¬ (u.2.1 1251 (x : Int32).toNatClampNeg : Int32) < (u.2.1 1251 (y : Int32).toNatClampNeg)) (c27_17 : (u.2.1 1251 (x : Int32).toNatClampNeg : Int32) = (u.2.1 1251 (y : Int32).toNatClampNeg)) (c32_33 : ¬ y ≤ (x : Int32)) (c43_49 : (x : Int32) = x) (hb_57 : 0 ≤ (u.2.1 1248 (x : Int32).toNatClampNeg) ∧ (u.2.1 1248 (x : Int32).toNatClampNeg) < u.1 1232) (hs_58 : 0 ≤ u.1 1232 ∧ u.1 1232 ≤ 20) : vp_in (y) 120 := by
  have hz1247 := hI.1.s1247
  refine g_in ?_ ?_ <;> ((try simp only [Int32.lt_iff_toInt_lt, Int32.le_iff_toInt_le, ← Int32.toInt_inj, Int32.toInt_add, Int32.toInt_sub, Int32.toInt_mul, Int32.toInt_neg, Int32.reduceToInt, g_bm, g_bm'] at *); omega)
set_option maxRecDepth 100000 in
theorem g_X12_areBoth_v130 (u : qS) (x : Int32) (y : Int32) (hI : IM u) (hx : 0 ≤ x ∧ x < u.1 1247) (hy : 0 ≤ y ∧ y < u.1 1247) (hys : u.1 1247 ≤ 120) (c12_1 : ¬ (u.2.1 1251 (x : Int32).toNatClampNeg : Int32) < (u.2.1 1251 (y : Int32).toNatClampNeg)) (c27_17 : (u.2.1 1251 (x : Int32).toNatClampNeg : Int32) = (u.2.1 1251 (y : Int32).toNatClampNeg)) (c32_33 : ¬ y ≤ (x : Int32)) (c43_49 : (x : Int32) = x) (hb_57 : 0 ≤ (u.2.1 1248 (x : Int32).toNatClampNeg) ∧ (u.2.1 1248 (x : Int32).toNatClampNeg) < u.1 1232) (hs_58 : 0 ≤ u.1 1232 ∧ u.1 1232 ≤ 20) : 0 ≤ y ∧ y < u.1 1247 := by
  have hz1247 := hI.1.s1247
  first | omega | ((try simp only [Int32.lt_iff_toInt_lt, Int32.le_iff_toInt_le, ← Int32.toInt_inj, Int32.toInt_add, Int32.toInt_sub, Int32.toInt_mul, Int32.toInt_neg, Int32.reduceToInt, g_bm, g_bm'] at *); omega) | (simp only [Int32.lt_iff_toInt_lt, Int32.le_iff_toInt_le, ← Int32.toInt_inj, Int32.toInt_add, Int32.toInt_sub, Int32.toInt_mul, Int32.toInt_neg, Int32.reduceToInt, g_bm, g_bm'] at *; simp at *; omega) | (simp_all; done)
set_option maxRecDepth 100000 in
theorem g_X12_areBoth_v131 (u : qS) (x : Int32) (y : Int32) (hI : IM u) (hx : 0 ≤ x ∧ x < u.1 1247) (hy : 0 ≤ y ∧ y < u.1 1247) (hys : u.1 1247 ≤ 120) (c12_1 : ¬ (u.2.1 1251 (x : Int32).toNatClampNeg : Int32) < (u.2.1 1251 (y : Int32).toNatClampNeg)) (c27_17 : (u.2.1 1251 (x : Int32).toNatClampNeg : Int32) = (u.2.1 1251 (y : Int32).toNatClampNeg)) (c32_33 : ¬ y ≤ (x : Int32)) (c43_49 : (x : Int32) = x) (hb_57 : 0 ≤ (u.2.1 1248 (x : Int32).toNatClampNeg) ∧ (u.2.1 1248 (x : Int32).toNatClampNeg) < u.1 1232) (hs_58 : 0 ≤ u.1 1232 ∧ u.1 1232 ≤ 20) (hb_59 : 0 ≤ (u.2.1 1248 (y : Int32).toNatClampNeg) ∧ (u.2.1 1248 (y : Int32).toNatClampNeg) < u.1 1232) : vp_in (u.2.1 1248 (y : Int32).toNatClampNeg) 20 := by
  have hz1247 := hI.1.s1247
  refine g_in ?_ ?_ <;> ((try simp only [Int32.lt_iff_toInt_lt, Int32.le_iff_toInt_le, ← Int32.toInt_inj, Int32.toInt_add, Int32.toInt_sub, Int32.toInt_mul, Int32.toInt_neg, Int32.reduceToInt, g_bm, g_bm'] at *); omega)
set_option maxRecDepth 100000 in
theorem g_X12_areBoth_v132 (u : qS) (x : Int32) (y : Int32) (hI : IM u) (hx : 0 ≤ x ∧ x < u.1 1247) (hy : 0 ≤ y ∧ y < u.1 1247) (hys : u.1 1247 ≤ 120) (c12_1 : ¬ (u.2.1 1251 (x : Int32).toNatClampNeg : Int32) < (u.2.1 1251 (y : Int32).toNatClampNeg)) (c27_17 : (u.2.1 1251 (x : Int32).toNatClampNeg : Int32) = (u.2.1 1251 (y : Int32).toNatClampNeg)) (c32_33 : ¬ y ≤ (x : Int32)) (c43_49 : (x : Int32) = x) (hb_57 : 0 ≤ (u.2.1 1248 (x : Int32).toNatClampNeg) ∧ (u.2.1 1248 (x : Int32).toNatClampNeg) < u.1 1232) (hs_58 : 0 ≤ u.1 1232 ∧ u.1 1232 ≤ 20) (hb_59 : 0 ≤ (u.2.1 1248 (y : Int32).toNatClampNeg) ∧ (u.2.1 1248 (y : Int32).toNatClampNeg) < u.1 1232) : vp_in (y) 120 := by
  have hz1247 := hI.1.s1247
  refine g_in ?_ ?_ <;> ((try simp only [Int32.lt_iff_toInt_lt, Int32.le_iff_toInt_le, ← Int32.toInt_inj, Int32.toInt_add, Int32.toInt_sub, Int32.toInt_mul, Int32.toInt_neg, Int32.reduceToInt, g_bm, g_bm'] at *); omega)
set_option maxRecDepth 100000 in
theorem g_X12_areBoth_v133 (u : qS) (x : Int32) (y : Int32) (hI : IM u) (hx : 0 ≤ x ∧ x < u.1 1247) (hy : 0 ≤ y ∧ y < u.1 1247) (hys : u.1 1247 ≤ 120) (c12_1 : ¬ (u.2.1 1251 (x : Int32).toNatClampNeg : Int32) < (u.2.1 1251 (y : Int32).toNatClampNeg)) (c27_17 : (u.2.1 1251 (x : Int32).toNatClampNeg : Int32) = (u.2.1 1251 (y : Int32).toNatClampNeg)) (c32_33 : ¬ y ≤ (x : Int32)) (c43_49 : (x : Int32) = x) (hb_57 : 0 ≤ (u.2.1 1248 (x : Int32).toNatClampNeg) ∧ (u.2.1 1248 (x : Int32).toNatClampNeg) < u.1 1232) (hs_58 : 0 ≤ u.1 1232 ∧ u.1 1232 ≤ 20) (hb_59 : 0 ≤ (u.2.1 1248 (y : Int32).toNatClampNeg) ∧ (u.2.1 1248 (y : Int32).toNatClampNeg) < u.1 1232) : 0 ≤ y ∧ y < u.1 1247 := by
  have hz1247 := hI.1.s1247
  first | omega | ((try simp only [Int32.lt_iff_toInt_lt, Int32.le_iff_toInt_le, ← Int32.toInt_inj, Int32.toInt_add, Int32.toInt_sub, Int32.toInt_mul, Int32.toInt_neg, Int32.reduceToInt, g_bm, g_bm'] at *); omega) | (simp only [Int32.lt_iff_toInt_lt, Int32.le_iff_toInt_le, ← Int32.toInt_inj, Int32.toInt_add, Int32.toInt_sub, Int32.toInt_mul, Int32.toInt_neg, Int32.reduceToInt, g_bm, g_bm'] at *; simp at *; omega) | (simp_all; done)
set_option maxRecDepth 100000 in
theorem g_X12_areBoth_v134 (u : qS) (x : Int32) (y : Int32) (hI : IM u) (hx : 0 ≤ x ∧ x < u.1 1247) (hy : 0 ≤ y ∧ y < u.1 1247) (hys : u.1 1247 ≤ 120) (c12_1 : ¬ (u.2.1 1251 (x : Int32).toNatClampNeg : Int32) < (u.2.1 1251 (y : Int32).toNatClampNeg)) (c27_17 : (u.2.1 1251 (x : Int32).toNatClampNeg : Int32) = (u.2.1 1251 (y : Int32).toNatClampNeg)) (c32_33 : ¬ y ≤ (x : Int32)) (c43_49 : (x : Int32) = x) (hb_57 : 0 ≤ (u.2.1 1248 (x : Int32).toNatClampNeg) ∧ (u.2.1 1248 (x : Int32).toNatClampNeg) < u.1 1232) (hs_58 : 0 ≤ u.1 1232 ∧ u.1 1232 ≤ 20) (hb_59 : 0 ≤ (u.2.1 1248 (y : Int32).toNatClampNeg) ∧ (u.2.1 1248 (y : Int32).toNatClampNeg) < u.1 1232) : vp_in (u.2.1 1248 (y : Int32).toNatClampNeg) 20 := by
  have hz1247 := hI.1.s1247
  refine g_in ?_ ?_ <;> ((try simp only [Int32.lt_iff_toInt_lt, Int32.le_iff_toInt_le, ← Int32.toInt_inj, Int32.toInt_add, Int32.toInt_sub, Int32.toInt_mul, Int32.toInt_neg, Int32.reduceToInt, g_bm, g_bm'] at *); omega)
set_option maxRecDepth 100000 in
theorem g_X12_areBoth_v135 (u : qS) (x : Int32) (y : Int32) (hI : IM u) (hx : 0 ≤ x ∧ x < u.1 1247) (hy : 0 ≤ y ∧ y < u.1 1247) (hys : u.1 1247 ≤ 120) (c12_1 : ¬ (u.2.1 1251 (x : Int32).toNatClampNeg : Int32) < (u.2.1 1251 (y : Int32).toNatClampNeg)) (c27_17 : (u.2.1 1251 (x : Int32).toNatClampNeg : Int32) = (u.2.1 1251 (y : Int32).toNatClampNeg)) (c32_33 : ¬ y ≤ (x : Int32)) (c43_49 : (x : Int32) = x) (hb_57 : 0 ≤ (u.2.1 1248 (x : Int32).toNatClampNeg) ∧ (u.2.1 1248 (x : Int32).toNatClampNeg) < u.1 1232) (hs_58 : 0 ≤ u.1 1232 ∧ u.1 1232 ≤ 20) (hb_59 : 0 ≤ (u.2.1 1248 (y : Int32).toNatClampNeg) ∧ (u.2.1 1248 (y : Int32).toNatClampNeg) < u.1 1232) : vp_in (y) 120 := by
  have hz1247 := hI.1.s1247
  refine g_in ?_ ?_ <;> ((try simp only [Int32.lt_iff_toInt_lt, Int32.le_iff_toInt_le, ← Int32.toInt_inj, Int32.toInt_add, Int32.toInt_sub, Int32.toInt_mul, Int32.toInt_neg, Int32.reduceToInt, g_bm, g_bm'] at *); omega)
set_option maxRecDepth 100000 in
theorem g_X12_areBoth_v136 (u : qS) (x : Int32) (y : Int32) (hI : IM u) (hx : 0 ≤ x ∧ x < u.1 1247) (hy : 0 ≤ y ∧ y < u.1 1247) (hys : u.1 1247 ≤ 120) (c12_1 : ¬ (u.2.1 1251 (x : Int32).toNatClampNeg : Int32) < (u.2.1 1251 (y : Int32).toNatClampNeg)) (c27_17 : (u.2.1 1251 (x : Int32).toNatClampNeg : Int32) = (u.2.1 1251 (y : Int32).toNatClampNeg)) (c32_33 : ¬ y ≤ (x : Int32)) (c43_49 : (x : Int32) = x) (hb_57 : 0 ≤ (u.2.1 1248 (x : Int32).toNatClampNeg) ∧ (u.2.1 1248 (x : Int32).toNatClampNeg) < u.1 1232) (hs_58 : 0 ≤ u.1 1232 ∧ u.1 1232 ≤ 20) (hb_59 : 0 ≤ (u.2.1 1248 (y : Int32).toNatClampNeg) ∧ (u.2.1 1248 (y : Int32).toNatClampNeg) < u.1 1232) : vp_in (x) 120 := by
  have hz1247 := hI.1.s1247
  refine g_in ?_ ?_ <;> ((try simp only [Int32.lt_iff_toInt_lt, Int32.le_iff_toInt_le, ← Int32.toInt_inj, Int32.toInt_add, Int32.toInt_sub, Int32.toInt_mul, Int32.toInt_neg, Int32.reduceToInt, g_bm, g_bm'] at *); omega)
set_option maxRecDepth 100000 in
theorem g_X12_areBoth_v137 (u : qS) (x : Int32) (y : Int32) (hI : IM u) (hx : 0 ≤ x ∧ x < u.1 1247) (hy : 0 ≤ y ∧ y < u.1 1247) (hys : u.1 1247 ≤ 120) (c12_1 : ¬ (u.2.1 1251 (x : Int32).toNatClampNeg : Int32) < (u.2.1 1251 (y : Int32).toNatClampNeg)) (c27_17 : (u.2.1 1251 (x : Int32).toNatClampNeg : Int32) = (u.2.1 1251 (y : Int32).toNatClampNeg)) (c32_33 : ¬ y ≤ (x : Int32)) (c43_49 : (x : Int32) = x) (hb_57 : 0 ≤ (u.2.1 1248 (x : Int32).toNatClampNeg) ∧ (u.2.1 1248 (x : Int32).toNatClampNeg) < u.1 1232) (hs_58 : 0 ≤ u.1 1232 ∧ u.1 1232 ≤ 20) (hb_59 : 0 ≤ (u.2.1 1248 (y : Int32).toNatClampNeg) ∧ (u.2.1 1248 (y : Int32).toNatClampNeg) < u.1 1232) : vp_in (x) 120 := by
  have hz1247 := hI.1.s1247
  refine g_in ?_ ?_ <;> ((try simp only [Int32.lt_iff_toInt_lt, Int32.le_iff_toInt_le, ← Int32.toInt_inj, Int32.toInt_add, Int32.toInt_sub, Int32.toInt_mul, Int32.toInt_neg, Int32.reduceToInt, g_bm, g_bm'] at *); omega)
set_option maxRecDepth 100000 in
theorem g_X12_areBoth_v138 (u : qS) (x : Int32) (y : Int32) (r_62 : Int32) (hI : IM u) (hx : 0 ≤ x ∧ x < u.1 1247) (hy : 0 ≤ y ∧ y < u.1 1247) (hys : u.1 1247 ≤ 120) (c12_1 : ¬ (u.2.1 1251 (x : Int32).toNatClampNeg : Int32) < (u.2.1 1251 (y : Int32).toNatClampNeg)) (c27_17 : (u.2.1 1251 (x : Int32).toNatClampNeg : Int32) = (u.2.1 1251 (y : Int32).toNatClampNeg)) (c32_33 : ¬ y ≤ (x : Int32)) (c43_49 : (x : Int32) = x) (hb_57 : 0 ≤ (u.2.1 1248 (x : Int32).toNatClampNeg) ∧ (u.2.1 1248 (x : Int32).toNatClampNeg) < u.1 1232) (hs_58 : 0 ≤ u.1 1232 ∧ u.1 1232 ≤ 20) (hb_59 : 0 ≤ (u.2.1 1248 (y : Int32).toNatClampNeg) ∧ (u.2.1 1248 (y : Int32).toNatClampNeg) < u.1 1232) (c130_63 : (u.2.1 1251 (y : Int32).toNatClampNeg : Int32) < (((u.2.1 1251 (x : Int32).toNatClampNeg) + (u.2.1 1252 (x : Int32).toNatClampNeg)) + ((u.1 1242) * r_62))) : (0 : Int32) = 1 ∨ (0 : Int32) = 0 := by
  have hz1247 := hI.1.s1247
  first | omega | ((try simp only [Int32.lt_iff_toInt_lt, Int32.le_iff_toInt_le, ← Int32.toInt_inj, Int32.toInt_add, Int32.toInt_sub, Int32.toInt_mul, Int32.toInt_neg, Int32.reduceToInt, g_bm, g_bm'] at *); omega) | (simp only [Int32.lt_iff_toInt_lt, Int32.le_iff_toInt_le, ← Int32.toInt_inj, Int32.toInt_add, Int32.toInt_sub, Int32.toInt_mul, Int32.toInt_neg, Int32.reduceToInt, g_bm, g_bm'] at *; simp at *; omega) | (simp_all; done)
set_option maxRecDepth 100000 in
theorem g_X12_areBoth_v139 (u : qS) (x : Int32) (y : Int32) (r_62 : Int32) (hI : IM u) (hx : 0 ≤ x ∧ x < u.1 1247) (hy : 0 ≤ y ∧ y < u.1 1247) (hys : u.1 1247 ≤ 120) (c12_1 : ¬ (u.2.1 1251 (x : Int32).toNatClampNeg : Int32) < (u.2.1 1251 (y : Int32).toNatClampNeg)) (c27_17 : (u.2.1 1251 (x : Int32).toNatClampNeg : Int32) = (u.2.1 1251 (y : Int32).toNatClampNeg)) (c32_33 : ¬ y ≤ (x : Int32)) (c43_49 : (x : Int32) = x) (hb_57 : 0 ≤ (u.2.1 1248 (x : Int32).toNatClampNeg) ∧ (u.2.1 1248 (x : Int32).toNatClampNeg) < u.1 1232) (hs_58 : 0 ≤ u.1 1232 ∧ u.1 1232 ≤ 20) (hb_59 : 0 ≤ (u.2.1 1248 (y : Int32).toNatClampNeg) ∧ (u.2.1 1248 (y : Int32).toNatClampNeg) < u.1 1232) (c130_63 : ¬ (u.2.1 1251 (y : Int32).toNatClampNeg : Int32) < (((u.2.1 1251 (x : Int32).toNatClampNeg) + (u.2.1 1252 (x : Int32).toNatClampNeg)) + ((u.1 1242) * r_62))) : (1 : Int32) = 1 ∨ (1 : Int32) = 0 := by
  have hz1247 := hI.1.s1247
  first | omega | ((try simp only [Int32.lt_iff_toInt_lt, Int32.le_iff_toInt_le, ← Int32.toInt_inj, Int32.toInt_add, Int32.toInt_sub, Int32.toInt_mul, Int32.toInt_neg, Int32.reduceToInt, g_bm, g_bm'] at *); omega) | (simp only [Int32.lt_iff_toInt_lt, Int32.le_iff_toInt_le, ← Int32.toInt_inj, Int32.toInt_add, Int32.toInt_sub, Int32.toInt_mul, Int32.toInt_neg, Int32.reduceToInt, g_bm, g_bm'] at *; simp at *; omega) | (simp_all; done)
set_option maxHeartbeats 1000000 in
set_option maxRecDepth 100000 in
theorem g_X12_areBoth (l : Launch) (E : qE) (A : Nat → Prop) (u : qS) (x : Int32) (y : Int32) (hI : IM u) (hx : 0 ≤ x ∧ x < u.1 1247) (hy : 0 ≤ y ∧ y < u.1 1247) (hys : u.1 1247 ≤ 120) : Met l yX12_areBoth (uws yX12_areBoth cX12_areBoth 6 (some .boolean)) (qR 1 0 0) (qPc E A 1 u [.ref (E.2.2 1299), .int x, .int y]) (qQi E A 1 (fun r u1 => u1 = u ∧ (r = 1 ∨ r = 0))) 0 0 A := by
  refine q_met (own := RX12) (f := 1) [.ref (E.2.2 1299), .int x, .int y] (by decide) (Nat.le_of_ble_eq_true rfl) rfl ?_
  intro p0 e0 s0 m0 bl0 me0 cd0 ls hF hr hlocks hU hS hA hl
  have hl : lv_has ls 6 [(0, .ref (E.2.2 1299)), (1, .int x), (2, .int y)] := hl
  refine lv_aload_n hF.1 hF.2.1 dX12_areBoth_0 rfl (lv_at hl 0 rfl) ?_
  refine q_get (v := .ref (E.2.2 1251)) hF hU dX12_areBoth_1 0 12 51 1251 1299 rfl rfl rfl rfl inX12 (by decide) (by decide) w_1383 rfl rfl ?_
  refine lv_iload_n hF.1 hF.2.1 dX12_areBoth_4 rfl (lv_at hl 1 rfl) ?_
  refine q_iald (v := u.2.1 1251 (x : Int32).toNatClampNeg) hF hU dX12_areBoth_5 30 1251 rfl rfl (g_X12_areBoth_v0 u x y hI hx hy hys) rfl ?_
  refine lv_aload_n hF.1 hF.2.1 dX12_areBoth_6 rfl (lv_at hl 0 rfl) ?_
  refine q_get (v := .ref (E.2.2 1251)) hF hU dX12_areBoth_7 0 12 51 1251 1299 rfl rfl rfl rfl inX12 (by decide) (by decide) w_1383 rfl rfl ?_
  refine lv_iload_n hF.1 hF.2.1 dX12_areBoth_10 rfl (lv_at hl 2 rfl) ?_
  refine q_iald (v := u.2.1 1251 (y : Int32).toNatClampNeg) hF hU dX12_areBoth_11 30 1251 rfl rfl (g_X12_areBoth_v1 u x y hI hx hy hys) rfl ?_
  refine lv_icmp_lt (tgt := 35) hF.1 hF.2.1 dX12_areBoth_12 (by decide) (fun c12_1 => ?_) (fun c12_1 => ?_)
  · refine lv_iload_n hF.1 hF.2.1 dX12_areBoth_35 rfl (lv_at hl 1 rfl) ?_
    refine lv_goto (tgt := 40) hF.1 hF.2.1 dX12_areBoth_36 (by decide) ?_
    refine lv_istore_n (lv' := [(3, .int x), (0, .ref (E.2.2 1299)), (1, .int x), (2, .int y)]) hF.1 hF.2.1 dX12_areBoth_40 rfl hl (by decide) rfl (fun ls hl => ?_)
    refine lv_iload_n hF.1 hF.2.1 dX12_areBoth_41 rfl (lv_at hl 0 rfl) ?_
    refine lv_iload_n hF.1 hF.2.1 dX12_areBoth_42 rfl (lv_at hl 2 rfl) ?_
    refine lv_icmp_ne (tgt := 50) hF.1 hF.2.1 dX12_areBoth_43 (by decide) (fun c43_2 => ?_) (fun c43_2 => ?_)
    · refine lv_iload_n hF.1 hF.2.1 dX12_areBoth_50 rfl (lv_at hl 2 rfl) ?_
      refine lv_istore (lv' := [(4, .int x), (3, .int x), (0, .ref (E.2.2 1299)), (1, .int x), (2, .int y)]) hF.1 hF.2.1 dX12_areBoth_51 hl (by decide) rfl (fun ls hl => ?_)
      refine lv_aload_n hF.1 hF.2.1 dX12_areBoth_53 rfl (lv_at hl 2 rfl) ?_
      refine q_get (v := .ref (E.2.2 1233)) hF hU dX12_areBoth_54 0 12 33 1233 1299 rfl rfl rfl rfl inX12 (by decide) (by decide) w_1365 rfl rfl ?_
      refine lv_aload_n hF.1 hF.2.1 dX12_areBoth_57 rfl (lv_at hl 2 rfl) ?_
      refine q_get (v := .ref (E.2.2 1248)) hF hU dX12_areBoth_58 0 12 48 1248 1299 rfl rfl rfl rfl inX12 (by decide) (by decide) w_1380 rfl rfl ?_
      refine lv_iload_n hF.1 hF.2.1 dX12_areBoth_61 rfl (lv_at hl 3 rfl) ?_
      refine q_iald (v := u.2.1 1248 (x : Int32).toNatClampNeg) hF hU dX12_areBoth_62 27 1248 rfl rfl (g_X12_areBoth_v2 u x y hI hx hy hys c12_1 c43_2) rfl ?_
      have hb_3 : 0 ≤ (u.2.1 1248 (x : Int32).toNatClampNeg) ∧ (u.2.1 1248 (x : Int32).toNatClampNeg) < u.1 1232 := hI.2.1.r1248 x (g_X12_areBoth_v3 u x y hI hx hy hys c12_1 c43_2)
      have hs_4 : 0 ≤ u.1 1232 ∧ u.1 1232 ≤ 20 := hI.1.s1232
      refine q_iald (v := u.2.1 1233 (u.2.1 1248 (x : Int32).toNatClampNeg : Int32).toNatClampNeg) hF hU dX12_areBoth_63 19 1233 rfl rfl (g_X12_areBoth_v4 u x y hI hx hy hys c12_1 c43_2 hb_3 hs_4) rfl ?_
      refine lv_aload_n hF.1 hF.2.1 dX12_areBoth_64 rfl (lv_at hl 2 rfl) ?_
      refine q_get (v := .ref (E.2.2 1234)) hF hU dX12_areBoth_65 0 12 34 1234 1299 rfl rfl rfl rfl inX12 (by decide) (by decide) w_1366 rfl rfl ?_
      refine lv_aload_n hF.1 hF.2.1 dX12_areBoth_68 rfl (lv_at hl 2 rfl) ?_
      refine q_get (v := .ref (E.2.2 1248)) hF hU dX12_areBoth_69 0 12 48 1248 1299 rfl rfl rfl rfl inX12 (by decide) (by decide) w_1380 rfl rfl ?_
      refine lv_iload_n hF.1 hF.2.1 dX12_areBoth_72 rfl (lv_at hl 3 rfl) ?_
      refine q_iald (v := u.2.1 1248 (x : Int32).toNatClampNeg) hF hU dX12_areBoth_73 27 1248 rfl rfl (g_X12_areBoth_v5 u x y hI hx hy hys c12_1 c43_2 hb_3 hs_4) rfl ?_
      refine q_iald (v := u.2.1 1234 (u.2.1 1248 (x : Int32).toNatClampNeg : Int32).toNatClampNeg) hF hU dX12_areBoth_74 20 1234 rfl rfl (g_X12_areBoth_v7 u x y hI hx hy hys c12_1 c43_2 hb_3 hs_4) rfl ?_
      refine lv_aload_n hF.1 hF.2.1 dX12_areBoth_75 rfl (lv_at hl 2 rfl) ?_
      refine q_get (v := .ref (E.2.2 1233)) hF hU dX12_areBoth_76 0 12 33 1233 1299 rfl rfl rfl rfl inX12 (by decide) (by decide) w_1365 rfl rfl ?_
      refine lv_aload_n hF.1 hF.2.1 dX12_areBoth_79 rfl (lv_at hl 2 rfl) ?_
      refine q_get (v := .ref (E.2.2 1248)) hF hU dX12_areBoth_80 0 12 48 1248 1299 rfl rfl rfl rfl inX12 (by decide) (by decide) w_1380 rfl rfl ?_
      refine lv_iload_n hF.1 hF.2.1 dX12_areBoth_83 rfl (lv_at hl 4 rfl) ?_
      refine q_iald (v := u.2.1 1248 (y : Int32).toNatClampNeg) hF hU dX12_areBoth_84 27 1248 rfl rfl (g_X12_areBoth_v8 u x y hI hx hy hys c12_1 c43_2 hb_3 hs_4) rfl ?_
      have hb_5 : 0 ≤ (u.2.1 1248 (y : Int32).toNatClampNeg) ∧ (u.2.1 1248 (y : Int32).toNatClampNeg) < u.1 1232 := hI.2.1.r1248 y (g_X12_areBoth_v9 u x y hI hx hy hys c12_1 c43_2 hb_3 hs_4)
      refine q_iald (v := u.2.1 1233 (u.2.1 1248 (y : Int32).toNatClampNeg : Int32).toNatClampNeg) hF hU dX12_areBoth_85 19 1233 rfl rfl (g_X12_areBoth_v10 u x y hI hx hy hys c12_1 c43_2 hb_3 hs_4 hb_5) rfl ?_
      refine lv_aload_n hF.1 hF.2.1 dX12_areBoth_86 rfl (lv_at hl 2 rfl) ?_
      refine q_get (v := .ref (E.2.2 1234)) hF hU dX12_areBoth_87 0 12 34 1234 1299 rfl rfl rfl rfl inX12 (by decide) (by decide) w_1366 rfl rfl ?_
      refine lv_aload_n hF.1 hF.2.1 dX12_areBoth_90 rfl (lv_at hl 2 rfl) ?_
      refine q_get (v := .ref (E.2.2 1248)) hF hU dX12_areBoth_91 0 12 48 1248 1299 rfl rfl rfl rfl inX12 (by decide) (by decide) w_1380 rfl rfl ?_
      refine lv_iload_n hF.1 hF.2.1 dX12_areBoth_94 rfl (lv_at hl 4 rfl) ?_
      refine q_iald (v := u.2.1 1248 (y : Int32).toNatClampNeg) hF hU dX12_areBoth_95 27 1248 rfl rfl (g_X12_areBoth_v11 u x y hI hx hy hys c12_1 c43_2 hb_3 hs_4 hb_5) rfl ?_
      refine q_iald (v := u.2.1 1234 (u.2.1 1248 (y : Int32).toNatClampNeg : Int32).toNatClampNeg) hF hU dX12_areBoth_96 20 1234 rfl rfl (g_X12_areBoth_v13 u x y hI hx hy hys c12_1 c43_2 hb_3 hs_4 hb_5) rfl ?_
      have hM9 := g_X12_wayBetween l E A u (u.2.1 1233 (u.2.1 1248 (x : Int32).toNatClampNeg : Int32).toNatClampNeg) (u.2.1 1234 (u.2.1 1248 (x : Int32).toNatClampNeg : Int32).toNatClampNeg) (u.2.1 1233 (u.2.1 1248 (y : Int32).toNatClampNeg : Int32).toNatClampNeg) (u.2.1 1234 (u.2.1 1248 (y : Int32).toNatClampNeg : Int32).toNatClampNeg)
      have hR9 := q_runS (l := l) (e := e0) (below := bl0) (meth := me0) (R := qR 1 0 0) (cells := 0) (slots := 0) (st0 := [.int (u.2.1 1234 (u.2.1 1248 (y : Int32).toNatClampNeg : Int32).toNatClampNeg), .int (u.2.1 1233 (u.2.1 1248 (y : Int32).toNatClampNeg : Int32).toNatClampNeg), .int (u.2.1 1234 (u.2.1 1248 (x : Int32).toNatClampNeg : Int32).toNatClampNeg), .int (u.2.1 1233 (u.2.1 1248 (x : Int32).toNatClampNeg : Int32).toNatClampNeg)]) (rest := []) hF hU hS hA 4 hM9 w_1791 w_1792 w_107 w_1793 (by decide +kernel) ⟨Nat.le_of_ble_eq_true rfl, Nat.le_of_ble_eq_true rfl⟩ dX12_areBoth_97 rfl hl.1 rfl (Nat.le_of_ble_eq_true rfl) ⟨Nat.le_of_ble_eq_true rfl, Nat.le_of_ble_eq_true rfl⟩
      refine q_calli hR9 hU.2.2.2 hS (fun r_8 u_6 H locs hw_7 hU hS => ?_)
      obtain ⟨hw_7_e, hw_7⟩ := hw_7
      rw [hw_7_e] at hU
      refine lv_istore (lv' := [(5, .int r_8), (4, .int x), (3, .int x), (0, .ref (E.2.2 1299)), (1, .int x), (2, .int y)]) hF.1 hF.2.1 dX12_areBoth_100 hl (by decide) rfl (fun ls hl => ?_)
      refine lv_aload_n hF.1 hF.2.1 dX12_areBoth_102 rfl (lv_at hl 3 rfl) ?_
      refine q_get (v := .ref (E.2.2 1251)) hF hU dX12_areBoth_103 0 12 51 1251 1299 rfl rfl rfl rfl inX12 (by decide) (by decide) w_1383 rfl rfl ?_
      refine lv_iload hF.1 hF.2.1 dX12_areBoth_106 (lv_at hl 1 rfl) ?_
      refine q_iald (v := u.2.1 1251 (x : Int32).toNatClampNeg) hF hU dX12_areBoth_108 30 1251 rfl rfl (g_X12_areBoth_v14 u x y hI hx hy hys c12_1 c43_2 hb_3 hs_4 hb_5) rfl ?_
      refine lv_aload_n hF.1 hF.2.1 dX12_areBoth_109 rfl (lv_at hl 3 rfl) ?_
      refine q_get (v := .ref (E.2.2 1251)) hF hU dX12_areBoth_110 0 12 51 1251 1299 rfl rfl rfl rfl inX12 (by decide) (by decide) w_1383 rfl rfl ?_
      refine lv_iload_n hF.1 hF.2.1 dX12_areBoth_113 rfl (lv_at hl 2 rfl) ?_
      refine q_iald (v := u.2.1 1251 (x : Int32).toNatClampNeg) hF hU dX12_areBoth_114 30 1251 rfl rfl (g_X12_areBoth_v15 u x y hI hx hy hys c12_1 c43_2 hb_3 hs_4 hb_5) rfl ?_
      refine lv_aload_n hF.1 hF.2.1 dX12_areBoth_115 rfl (lv_at hl 3 rfl) ?_
      refine q_get (v := .ref (E.2.2 1252)) hF hU dX12_areBoth_116 0 12 52 1252 1299 rfl rfl rfl rfl inX12 (by decide) (by decide) w_1384 rfl rfl ?_
      refine lv_iload_n hF.1 hF.2.1 dX12_areBoth_119 rfl (lv_at hl 2 rfl) ?_
      refine q_iald (v := u.2.1 1252 (x : Int32).toNatClampNeg) hF hU dX12_areBoth_120 31 1252 rfl rfl (g_X12_areBoth_v16 u x y hI hx hy hys c12_1 c43_2 hb_3 hs_4 hb_5) rfl ?_
      refine lv_iadd hF.1 hF.2.1 dX12_areBoth_121 ?_
      refine lv_aload_n hF.1 hF.2.1 dX12_areBoth_122 rfl (lv_at hl 3 rfl) ?_
      refine q_get (v := .int (u.1 1242)) hF hU dX12_areBoth_123 0 12 42 1242 1299 rfl rfl rfl rfl inX12 (by decide) (by decide) w_1374 rfl rfl ?_
      refine lv_iload hF.1 hF.2.1 dX12_areBoth_126 (lv_at hl 0 rfl) ?_
      refine lv_imul hF.1 hF.2.1 dX12_areBoth_128 ?_
      refine lv_iadd hF.1 hF.2.1 dX12_areBoth_129 ?_
      refine lv_icmp_lt (tgt := 137) hF.1 hF.2.1 dX12_areBoth_130 (by decide) (fun c130_9 => ?_) (fun c130_9 => ?_)
      · refine lv_iconst (v := 0) hF.1 hF.2.1 dX12_areBoth_137 (by decide) ?_
        exact q_iret hF hr (by decide) hlocks hU hS dX12_areBoth_138 ⟨rfl, (g_X12_areBoth_v17 u x y r_8 hI hx hy hys c12_1 c43_2 hb_3 hs_4 hb_5 c130_9)⟩
      · refine lv_iconst (v := 1) hF.1 hF.2.1 dX12_areBoth_133 (by decide) ?_
        refine lv_goto (tgt := 138) hF.1 hF.2.1 dX12_areBoth_134 (by decide) ?_
        exact q_iret hF hr (by decide) hlocks hU hS dX12_areBoth_138 ⟨rfl, (g_X12_areBoth_v18 u x y r_8 hI hx hy hys c12_1 c43_2 hb_3 hs_4 hb_5 c130_9)⟩
    · refine lv_iload_n hF.1 hF.2.1 dX12_areBoth_46 rfl (lv_at hl 3 rfl) ?_
      refine lv_goto (tgt := 51) hF.1 hF.2.1 dX12_areBoth_47 (by decide) ?_
      refine lv_istore (lv' := [(4, .int y), (3, .int x), (0, .ref (E.2.2 1299)), (1, .int x), (2, .int y)]) hF.1 hF.2.1 dX12_areBoth_51 hl (by decide) rfl (fun ls hl => ?_)
      refine lv_aload_n hF.1 hF.2.1 dX12_areBoth_53 rfl (lv_at hl 2 rfl) ?_
      refine q_get (v := .ref (E.2.2 1233)) hF hU dX12_areBoth_54 0 12 33 1233 1299 rfl rfl rfl rfl inX12 (by decide) (by decide) w_1365 rfl rfl ?_
      refine lv_aload_n hF.1 hF.2.1 dX12_areBoth_57 rfl (lv_at hl 2 rfl) ?_
      refine q_get (v := .ref (E.2.2 1248)) hF hU dX12_areBoth_58 0 12 48 1248 1299 rfl rfl rfl rfl inX12 (by decide) (by decide) w_1380 rfl rfl ?_
      refine lv_iload_n hF.1 hF.2.1 dX12_areBoth_61 rfl (lv_at hl 3 rfl) ?_
      refine q_iald (v := u.2.1 1248 (x : Int32).toNatClampNeg) hF hU dX12_areBoth_62 27 1248 rfl rfl (g_X12_areBoth_v19 u x y hI hx hy hys c12_1 c43_2) rfl ?_
      have hb_10 : 0 ≤ (u.2.1 1248 (x : Int32).toNatClampNeg) ∧ (u.2.1 1248 (x : Int32).toNatClampNeg) < u.1 1232 := hI.2.1.r1248 x (g_X12_areBoth_v20 u x y hI hx hy hys c12_1 c43_2)
      have hs_11 : 0 ≤ u.1 1232 ∧ u.1 1232 ≤ 20 := hI.1.s1232
      refine q_iald (v := u.2.1 1233 (u.2.1 1248 (x : Int32).toNatClampNeg : Int32).toNatClampNeg) hF hU dX12_areBoth_63 19 1233 rfl rfl (g_X12_areBoth_v21 u x y hI hx hy hys c12_1 c43_2 hb_10 hs_11) rfl ?_
      refine lv_aload_n hF.1 hF.2.1 dX12_areBoth_64 rfl (lv_at hl 2 rfl) ?_
      refine q_get (v := .ref (E.2.2 1234)) hF hU dX12_areBoth_65 0 12 34 1234 1299 rfl rfl rfl rfl inX12 (by decide) (by decide) w_1366 rfl rfl ?_
      refine lv_aload_n hF.1 hF.2.1 dX12_areBoth_68 rfl (lv_at hl 2 rfl) ?_
      refine q_get (v := .ref (E.2.2 1248)) hF hU dX12_areBoth_69 0 12 48 1248 1299 rfl rfl rfl rfl inX12 (by decide) (by decide) w_1380 rfl rfl ?_
      refine lv_iload_n hF.1 hF.2.1 dX12_areBoth_72 rfl (lv_at hl 3 rfl) ?_
      refine q_iald (v := u.2.1 1248 (x : Int32).toNatClampNeg) hF hU dX12_areBoth_73 27 1248 rfl rfl (g_X12_areBoth_v22 u x y hI hx hy hys c12_1 c43_2 hb_10 hs_11) rfl ?_
      refine q_iald (v := u.2.1 1234 (u.2.1 1248 (x : Int32).toNatClampNeg : Int32).toNatClampNeg) hF hU dX12_areBoth_74 20 1234 rfl rfl (g_X12_areBoth_v24 u x y hI hx hy hys c12_1 c43_2 hb_10 hs_11) rfl ?_
      refine lv_aload_n hF.1 hF.2.1 dX12_areBoth_75 rfl (lv_at hl 2 rfl) ?_
      refine q_get (v := .ref (E.2.2 1233)) hF hU dX12_areBoth_76 0 12 33 1233 1299 rfl rfl rfl rfl inX12 (by decide) (by decide) w_1365 rfl rfl ?_
      refine lv_aload_n hF.1 hF.2.1 dX12_areBoth_79 rfl (lv_at hl 2 rfl) ?_
      refine q_get (v := .ref (E.2.2 1248)) hF hU dX12_areBoth_80 0 12 48 1248 1299 rfl rfl rfl rfl inX12 (by decide) (by decide) w_1380 rfl rfl ?_
      refine lv_iload_n hF.1 hF.2.1 dX12_areBoth_83 rfl (lv_at hl 4 rfl) ?_
      refine q_iald (v := u.2.1 1248 (y : Int32).toNatClampNeg) hF hU dX12_areBoth_84 27 1248 rfl rfl (g_X12_areBoth_v25 u x y hI hx hy hys c12_1 c43_2 hb_10 hs_11) rfl ?_
      have hb_12 : 0 ≤ (u.2.1 1248 (y : Int32).toNatClampNeg) ∧ (u.2.1 1248 (y : Int32).toNatClampNeg) < u.1 1232 := hI.2.1.r1248 y (g_X12_areBoth_v26 u x y hI hx hy hys c12_1 c43_2 hb_10 hs_11)
      refine q_iald (v := u.2.1 1233 (u.2.1 1248 (y : Int32).toNatClampNeg : Int32).toNatClampNeg) hF hU dX12_areBoth_85 19 1233 rfl rfl (g_X12_areBoth_v27 u x y hI hx hy hys c12_1 c43_2 hb_10 hs_11 hb_12) rfl ?_
      refine lv_aload_n hF.1 hF.2.1 dX12_areBoth_86 rfl (lv_at hl 2 rfl) ?_
      refine q_get (v := .ref (E.2.2 1234)) hF hU dX12_areBoth_87 0 12 34 1234 1299 rfl rfl rfl rfl inX12 (by decide) (by decide) w_1366 rfl rfl ?_
      refine lv_aload_n hF.1 hF.2.1 dX12_areBoth_90 rfl (lv_at hl 2 rfl) ?_
      refine q_get (v := .ref (E.2.2 1248)) hF hU dX12_areBoth_91 0 12 48 1248 1299 rfl rfl rfl rfl inX12 (by decide) (by decide) w_1380 rfl rfl ?_
      refine lv_iload_n hF.1 hF.2.1 dX12_areBoth_94 rfl (lv_at hl 4 rfl) ?_
      refine q_iald (v := u.2.1 1248 (y : Int32).toNatClampNeg) hF hU dX12_areBoth_95 27 1248 rfl rfl (g_X12_areBoth_v28 u x y hI hx hy hys c12_1 c43_2 hb_10 hs_11 hb_12) rfl ?_
      refine q_iald (v := u.2.1 1234 (u.2.1 1248 (y : Int32).toNatClampNeg : Int32).toNatClampNeg) hF hU dX12_areBoth_96 20 1234 rfl rfl (g_X12_areBoth_v30 u x y hI hx hy hys c12_1 c43_2 hb_10 hs_11 hb_12) rfl ?_
      have hM9 := g_X12_wayBetween l E A u (u.2.1 1233 (u.2.1 1248 (x : Int32).toNatClampNeg : Int32).toNatClampNeg) (u.2.1 1234 (u.2.1 1248 (x : Int32).toNatClampNeg : Int32).toNatClampNeg) (u.2.1 1233 (u.2.1 1248 (y : Int32).toNatClampNeg : Int32).toNatClampNeg) (u.2.1 1234 (u.2.1 1248 (y : Int32).toNatClampNeg : Int32).toNatClampNeg)
      have hR9 := q_runS (l := l) (e := e0) (below := bl0) (meth := me0) (R := qR 1 0 0) (cells := 0) (slots := 0) (st0 := [.int (u.2.1 1234 (u.2.1 1248 (y : Int32).toNatClampNeg : Int32).toNatClampNeg), .int (u.2.1 1233 (u.2.1 1248 (y : Int32).toNatClampNeg : Int32).toNatClampNeg), .int (u.2.1 1234 (u.2.1 1248 (x : Int32).toNatClampNeg : Int32).toNatClampNeg), .int (u.2.1 1233 (u.2.1 1248 (x : Int32).toNatClampNeg : Int32).toNatClampNeg)]) (rest := []) hF hU hS hA 4 hM9 w_1791 w_1792 w_107 w_1793 (by decide +kernel) ⟨Nat.le_of_ble_eq_true rfl, Nat.le_of_ble_eq_true rfl⟩ dX12_areBoth_97 rfl hl.1 rfl (Nat.le_of_ble_eq_true rfl) ⟨Nat.le_of_ble_eq_true rfl, Nat.le_of_ble_eq_true rfl⟩
      refine q_calli hR9 hU.2.2.2 hS (fun r_15 u_13 H locs hw_14 hU hS => ?_)
      obtain ⟨hw_14_e, hw_14⟩ := hw_14
      rw [hw_14_e] at hU
      refine lv_istore (lv' := [(5, .int r_15), (4, .int y), (3, .int x), (0, .ref (E.2.2 1299)), (1, .int x), (2, .int y)]) hF.1 hF.2.1 dX12_areBoth_100 hl (by decide) rfl (fun ls hl => ?_)
      refine lv_aload_n hF.1 hF.2.1 dX12_areBoth_102 rfl (lv_at hl 3 rfl) ?_
      refine q_get (v := .ref (E.2.2 1251)) hF hU dX12_areBoth_103 0 12 51 1251 1299 rfl rfl rfl rfl inX12 (by decide) (by decide) w_1383 rfl rfl ?_
      refine lv_iload hF.1 hF.2.1 dX12_areBoth_106 (lv_at hl 1 rfl) ?_
      refine q_iald (v := u.2.1 1251 (y : Int32).toNatClampNeg) hF hU dX12_areBoth_108 30 1251 rfl rfl (g_X12_areBoth_v31 u x y hI hx hy hys c12_1 c43_2 hb_10 hs_11 hb_12) rfl ?_
      refine lv_aload_n hF.1 hF.2.1 dX12_areBoth_109 rfl (lv_at hl 3 rfl) ?_
      refine q_get (v := .ref (E.2.2 1251)) hF hU dX12_areBoth_110 0 12 51 1251 1299 rfl rfl rfl rfl inX12 (by decide) (by decide) w_1383 rfl rfl ?_
      refine lv_iload_n hF.1 hF.2.1 dX12_areBoth_113 rfl (lv_at hl 2 rfl) ?_
      refine q_iald (v := u.2.1 1251 (x : Int32).toNatClampNeg) hF hU dX12_areBoth_114 30 1251 rfl rfl (g_X12_areBoth_v32 u x y hI hx hy hys c12_1 c43_2 hb_10 hs_11 hb_12) rfl ?_
      refine lv_aload_n hF.1 hF.2.1 dX12_areBoth_115 rfl (lv_at hl 3 rfl) ?_
      refine q_get (v := .ref (E.2.2 1252)) hF hU dX12_areBoth_116 0 12 52 1252 1299 rfl rfl rfl rfl inX12 (by decide) (by decide) w_1384 rfl rfl ?_
      refine lv_iload_n hF.1 hF.2.1 dX12_areBoth_119 rfl (lv_at hl 2 rfl) ?_
      refine q_iald (v := u.2.1 1252 (x : Int32).toNatClampNeg) hF hU dX12_areBoth_120 31 1252 rfl rfl (g_X12_areBoth_v33 u x y hI hx hy hys c12_1 c43_2 hb_10 hs_11 hb_12) rfl ?_
      refine lv_iadd hF.1 hF.2.1 dX12_areBoth_121 ?_
      refine lv_aload_n hF.1 hF.2.1 dX12_areBoth_122 rfl (lv_at hl 3 rfl) ?_
      refine q_get (v := .int (u.1 1242)) hF hU dX12_areBoth_123 0 12 42 1242 1299 rfl rfl rfl rfl inX12 (by decide) (by decide) w_1374 rfl rfl ?_
      refine lv_iload hF.1 hF.2.1 dX12_areBoth_126 (lv_at hl 0 rfl) ?_
      refine lv_imul hF.1 hF.2.1 dX12_areBoth_128 ?_
      refine lv_iadd hF.1 hF.2.1 dX12_areBoth_129 ?_
      refine lv_icmp_lt (tgt := 137) hF.1 hF.2.1 dX12_areBoth_130 (by decide) (fun c130_16 => ?_) (fun c130_16 => ?_)
      · refine lv_iconst (v := 0) hF.1 hF.2.1 dX12_areBoth_137 (by decide) ?_
        exact q_iret hF hr (by decide) hlocks hU hS dX12_areBoth_138 ⟨rfl, (g_X12_areBoth_v34 u x y r_15 hI hx hy hys c12_1 c43_2 hb_10 hs_11 hb_12 c130_16)⟩
      · refine lv_iconst (v := 1) hF.1 hF.2.1 dX12_areBoth_133 (by decide) ?_
        refine lv_goto (tgt := 138) hF.1 hF.2.1 dX12_areBoth_134 (by decide) ?_
        exact q_iret hF hr (by decide) hlocks hU hS dX12_areBoth_138 ⟨rfl, (g_X12_areBoth_v35 u x y r_15 hI hx hy hys c12_1 c43_2 hb_10 hs_11 hb_12 c130_16)⟩
  · refine lv_aload_n hF.1 hF.2.1 dX12_areBoth_15 rfl (lv_at hl 0 rfl) ?_
    refine q_get (v := .ref (E.2.2 1251)) hF hU dX12_areBoth_16 0 12 51 1251 1299 rfl rfl rfl rfl inX12 (by decide) (by decide) w_1383 rfl rfl ?_
    refine lv_iload_n hF.1 hF.2.1 dX12_areBoth_19 rfl (lv_at hl 1 rfl) ?_
    refine q_iald (v := u.2.1 1251 (x : Int32).toNatClampNeg) hF hU dX12_areBoth_20 30 1251 rfl rfl (g_X12_areBoth_v36 u x y hI hx hy hys c12_1) rfl ?_
    refine lv_aload_n hF.1 hF.2.1 dX12_areBoth_21 rfl (lv_at hl 0 rfl) ?_
    refine q_get (v := .ref (E.2.2 1251)) hF hU dX12_areBoth_22 0 12 51 1251 1299 rfl rfl rfl rfl inX12 (by decide) (by decide) w_1383 rfl rfl ?_
    refine lv_iload_n hF.1 hF.2.1 dX12_areBoth_25 rfl (lv_at hl 2 rfl) ?_
    refine q_iald (v := u.2.1 1251 (y : Int32).toNatClampNeg) hF hU dX12_areBoth_26 30 1251 rfl rfl (g_X12_areBoth_v37 u x y hI hx hy hys c12_1) rfl ?_
    refine lv_icmp_ne (tgt := 39) hF.1 hF.2.1 dX12_areBoth_27 (by decide) (fun c27_17 => ?_) (fun c27_17 => ?_)
    · refine lv_iload_n hF.1 hF.2.1 dX12_areBoth_39 rfl (lv_at hl 2 rfl) ?_
      refine lv_istore_n (lv' := [(3, .int y), (0, .ref (E.2.2 1299)), (1, .int x), (2, .int y)]) hF.1 hF.2.1 dX12_areBoth_40 rfl hl (by decide) rfl (fun ls hl => ?_)
      refine lv_iload_n hF.1 hF.2.1 dX12_areBoth_41 rfl (lv_at hl 0 rfl) ?_
      refine lv_iload_n hF.1 hF.2.1 dX12_areBoth_42 rfl (lv_at hl 2 rfl) ?_
      refine lv_icmp_ne (tgt := 50) hF.1 hF.2.1 dX12_areBoth_43 (by decide) (fun c43_18 => ?_) (fun c43_18 => ?_)
      · refine lv_iload_n hF.1 hF.2.1 dX12_areBoth_50 rfl (lv_at hl 2 rfl) ?_
        refine lv_istore (lv' := [(4, .int x), (3, .int y), (0, .ref (E.2.2 1299)), (1, .int x), (2, .int y)]) hF.1 hF.2.1 dX12_areBoth_51 hl (by decide) rfl (fun ls hl => ?_)
        refine lv_aload_n hF.1 hF.2.1 dX12_areBoth_53 rfl (lv_at hl 2 rfl) ?_
        refine q_get (v := .ref (E.2.2 1233)) hF hU dX12_areBoth_54 0 12 33 1233 1299 rfl rfl rfl rfl inX12 (by decide) (by decide) w_1365 rfl rfl ?_
        refine lv_aload_n hF.1 hF.2.1 dX12_areBoth_57 rfl (lv_at hl 2 rfl) ?_
        refine q_get (v := .ref (E.2.2 1248)) hF hU dX12_areBoth_58 0 12 48 1248 1299 rfl rfl rfl rfl inX12 (by decide) (by decide) w_1380 rfl rfl ?_
        refine lv_iload_n hF.1 hF.2.1 dX12_areBoth_61 rfl (lv_at hl 3 rfl) ?_
        refine q_iald (v := u.2.1 1248 (x : Int32).toNatClampNeg) hF hU dX12_areBoth_62 27 1248 rfl rfl (g_X12_areBoth_v38 u x y hI hx hy hys c12_1 c27_17 c43_18) rfl ?_
        have hb_19 : 0 ≤ (u.2.1 1248 (x : Int32).toNatClampNeg) ∧ (u.2.1 1248 (x : Int32).toNatClampNeg) < u.1 1232 := hI.2.1.r1248 x (g_X12_areBoth_v39 u x y hI hx hy hys c12_1 c27_17 c43_18)
        have hs_20 : 0 ≤ u.1 1232 ∧ u.1 1232 ≤ 20 := hI.1.s1232
        refine q_iald (v := u.2.1 1233 (u.2.1 1248 (x : Int32).toNatClampNeg : Int32).toNatClampNeg) hF hU dX12_areBoth_63 19 1233 rfl rfl (g_X12_areBoth_v40 u x y hI hx hy hys c12_1 c27_17 c43_18 hb_19 hs_20) rfl ?_
        refine lv_aload_n hF.1 hF.2.1 dX12_areBoth_64 rfl (lv_at hl 2 rfl) ?_
        refine q_get (v := .ref (E.2.2 1234)) hF hU dX12_areBoth_65 0 12 34 1234 1299 rfl rfl rfl rfl inX12 (by decide) (by decide) w_1366 rfl rfl ?_
        refine lv_aload_n hF.1 hF.2.1 dX12_areBoth_68 rfl (lv_at hl 2 rfl) ?_
        refine q_get (v := .ref (E.2.2 1248)) hF hU dX12_areBoth_69 0 12 48 1248 1299 rfl rfl rfl rfl inX12 (by decide) (by decide) w_1380 rfl rfl ?_
        refine lv_iload_n hF.1 hF.2.1 dX12_areBoth_72 rfl (lv_at hl 3 rfl) ?_
        refine q_iald (v := u.2.1 1248 (x : Int32).toNatClampNeg) hF hU dX12_areBoth_73 27 1248 rfl rfl (g_X12_areBoth_v41 u x y hI hx hy hys c12_1 c27_17 c43_18 hb_19 hs_20) rfl ?_
        refine q_iald (v := u.2.1 1234 (u.2.1 1248 (x : Int32).toNatClampNeg : Int32).toNatClampNeg) hF hU dX12_areBoth_74 20 1234 rfl rfl (g_X12_areBoth_v43 u x y hI hx hy hys c12_1 c27_17 c43_18 hb_19 hs_20) rfl ?_
        refine lv_aload_n hF.1 hF.2.1 dX12_areBoth_75 rfl (lv_at hl 2 rfl) ?_
        refine q_get (v := .ref (E.2.2 1233)) hF hU dX12_areBoth_76 0 12 33 1233 1299 rfl rfl rfl rfl inX12 (by decide) (by decide) w_1365 rfl rfl ?_
        refine lv_aload_n hF.1 hF.2.1 dX12_areBoth_79 rfl (lv_at hl 2 rfl) ?_
        refine q_get (v := .ref (E.2.2 1248)) hF hU dX12_areBoth_80 0 12 48 1248 1299 rfl rfl rfl rfl inX12 (by decide) (by decide) w_1380 rfl rfl ?_
        refine lv_iload_n hF.1 hF.2.1 dX12_areBoth_83 rfl (lv_at hl 4 rfl) ?_
        refine q_iald (v := u.2.1 1248 (y : Int32).toNatClampNeg) hF hU dX12_areBoth_84 27 1248 rfl rfl (g_X12_areBoth_v44 u x y hI hx hy hys c12_1 c27_17 c43_18 hb_19 hs_20) rfl ?_
        have hb_21 : 0 ≤ (u.2.1 1248 (y : Int32).toNatClampNeg) ∧ (u.2.1 1248 (y : Int32).toNatClampNeg) < u.1 1232 := hI.2.1.r1248 y (g_X12_areBoth_v45 u x y hI hx hy hys c12_1 c27_17 c43_18 hb_19 hs_20)
        refine q_iald (v := u.2.1 1233 (u.2.1 1248 (y : Int32).toNatClampNeg : Int32).toNatClampNeg) hF hU dX12_areBoth_85 19 1233 rfl rfl (g_X12_areBoth_v46 u x y hI hx hy hys c12_1 c27_17 c43_18 hb_19 hs_20 hb_21) rfl ?_
        refine lv_aload_n hF.1 hF.2.1 dX12_areBoth_86 rfl (lv_at hl 2 rfl) ?_
        refine q_get (v := .ref (E.2.2 1234)) hF hU dX12_areBoth_87 0 12 34 1234 1299 rfl rfl rfl rfl inX12 (by decide) (by decide) w_1366 rfl rfl ?_
        refine lv_aload_n hF.1 hF.2.1 dX12_areBoth_90 rfl (lv_at hl 2 rfl) ?_
        refine q_get (v := .ref (E.2.2 1248)) hF hU dX12_areBoth_91 0 12 48 1248 1299 rfl rfl rfl rfl inX12 (by decide) (by decide) w_1380 rfl rfl ?_
        refine lv_iload_n hF.1 hF.2.1 dX12_areBoth_94 rfl (lv_at hl 4 rfl) ?_
        refine q_iald (v := u.2.1 1248 (y : Int32).toNatClampNeg) hF hU dX12_areBoth_95 27 1248 rfl rfl (g_X12_areBoth_v47 u x y hI hx hy hys c12_1 c27_17 c43_18 hb_19 hs_20 hb_21) rfl ?_
        refine q_iald (v := u.2.1 1234 (u.2.1 1248 (y : Int32).toNatClampNeg : Int32).toNatClampNeg) hF hU dX12_areBoth_96 20 1234 rfl rfl (g_X12_areBoth_v49 u x y hI hx hy hys c12_1 c27_17 c43_18 hb_19 hs_20 hb_21) rfl ?_
        have hM9 := g_X12_wayBetween l E A u (u.2.1 1233 (u.2.1 1248 (x : Int32).toNatClampNeg : Int32).toNatClampNeg) (u.2.1 1234 (u.2.1 1248 (x : Int32).toNatClampNeg : Int32).toNatClampNeg) (u.2.1 1233 (u.2.1 1248 (y : Int32).toNatClampNeg : Int32).toNatClampNeg) (u.2.1 1234 (u.2.1 1248 (y : Int32).toNatClampNeg : Int32).toNatClampNeg)
        have hR9 := q_runS (l := l) (e := e0) (below := bl0) (meth := me0) (R := qR 1 0 0) (cells := 0) (slots := 0) (st0 := [.int (u.2.1 1234 (u.2.1 1248 (y : Int32).toNatClampNeg : Int32).toNatClampNeg), .int (u.2.1 1233 (u.2.1 1248 (y : Int32).toNatClampNeg : Int32).toNatClampNeg), .int (u.2.1 1234 (u.2.1 1248 (x : Int32).toNatClampNeg : Int32).toNatClampNeg), .int (u.2.1 1233 (u.2.1 1248 (x : Int32).toNatClampNeg : Int32).toNatClampNeg)]) (rest := []) hF hU hS hA 4 hM9 w_1791 w_1792 w_107 w_1793 (by decide +kernel) ⟨Nat.le_of_ble_eq_true rfl, Nat.le_of_ble_eq_true rfl⟩ dX12_areBoth_97 rfl hl.1 rfl (Nat.le_of_ble_eq_true rfl) ⟨Nat.le_of_ble_eq_true rfl, Nat.le_of_ble_eq_true rfl⟩
        refine q_calli hR9 hU.2.2.2 hS (fun r_24 u_22 H locs hw_23 hU hS => ?_)
        obtain ⟨hw_23_e, hw_23⟩ := hw_23
        rw [hw_23_e] at hU
        refine lv_istore (lv' := [(5, .int r_24), (4, .int x), (3, .int y), (0, .ref (E.2.2 1299)), (1, .int x), (2, .int y)]) hF.1 hF.2.1 dX12_areBoth_100 hl (by decide) rfl (fun ls hl => ?_)
        refine lv_aload_n hF.1 hF.2.1 dX12_areBoth_102 rfl (lv_at hl 3 rfl) ?_
        refine q_get (v := .ref (E.2.2 1251)) hF hU dX12_areBoth_103 0 12 51 1251 1299 rfl rfl rfl rfl inX12 (by decide) (by decide) w_1383 rfl rfl ?_
        refine lv_iload hF.1 hF.2.1 dX12_areBoth_106 (lv_at hl 1 rfl) ?_
        refine q_iald (v := u.2.1 1251 (x : Int32).toNatClampNeg) hF hU dX12_areBoth_108 30 1251 rfl rfl (g_X12_areBoth_v50 u x y hI hx hy hys c12_1 c27_17 c43_18 hb_19 hs_20 hb_21) rfl ?_
        refine lv_aload_n hF.1 hF.2.1 dX12_areBoth_109 rfl (lv_at hl 3 rfl) ?_
        refine q_get (v := .ref (E.2.2 1251)) hF hU dX12_areBoth_110 0 12 51 1251 1299 rfl rfl rfl rfl inX12 (by decide) (by decide) w_1383 rfl rfl ?_
        refine lv_iload_n hF.1 hF.2.1 dX12_areBoth_113 rfl (lv_at hl 2 rfl) ?_
        refine q_iald (v := u.2.1 1251 (y : Int32).toNatClampNeg) hF hU dX12_areBoth_114 30 1251 rfl rfl (g_X12_areBoth_v51 u x y hI hx hy hys c12_1 c27_17 c43_18 hb_19 hs_20 hb_21) rfl ?_
        refine lv_aload_n hF.1 hF.2.1 dX12_areBoth_115 rfl (lv_at hl 3 rfl) ?_
        refine q_get (v := .ref (E.2.2 1252)) hF hU dX12_areBoth_116 0 12 52 1252 1299 rfl rfl rfl rfl inX12 (by decide) (by decide) w_1384 rfl rfl ?_
        refine lv_iload_n hF.1 hF.2.1 dX12_areBoth_119 rfl (lv_at hl 2 rfl) ?_
        refine q_iald (v := u.2.1 1252 (y : Int32).toNatClampNeg) hF hU dX12_areBoth_120 31 1252 rfl rfl (g_X12_areBoth_v52 u x y hI hx hy hys c12_1 c27_17 c43_18 hb_19 hs_20 hb_21) rfl ?_
        refine lv_iadd hF.1 hF.2.1 dX12_areBoth_121 ?_
        refine lv_aload_n hF.1 hF.2.1 dX12_areBoth_122 rfl (lv_at hl 3 rfl) ?_
        refine q_get (v := .int (u.1 1242)) hF hU dX12_areBoth_123 0 12 42 1242 1299 rfl rfl rfl rfl inX12 (by decide) (by decide) w_1374 rfl rfl ?_
        refine lv_iload hF.1 hF.2.1 dX12_areBoth_126 (lv_at hl 0 rfl) ?_
        refine lv_imul hF.1 hF.2.1 dX12_areBoth_128 ?_
        refine lv_iadd hF.1 hF.2.1 dX12_areBoth_129 ?_
        refine lv_icmp_lt (tgt := 137) hF.1 hF.2.1 dX12_areBoth_130 (by decide) (fun c130_25 => ?_) (fun c130_25 => ?_)
        · refine lv_iconst (v := 0) hF.1 hF.2.1 dX12_areBoth_137 (by decide) ?_
          exact q_iret hF hr (by decide) hlocks hU hS dX12_areBoth_138 ⟨rfl, (g_X12_areBoth_v53 u x y r_24 hI hx hy hys c12_1 c27_17 c43_18 hb_19 hs_20 hb_21 c130_25)⟩
        · refine lv_iconst (v := 1) hF.1 hF.2.1 dX12_areBoth_133 (by decide) ?_
          refine lv_goto (tgt := 138) hF.1 hF.2.1 dX12_areBoth_134 (by decide) ?_
          exact q_iret hF hr (by decide) hlocks hU hS dX12_areBoth_138 ⟨rfl, (g_X12_areBoth_v54 u x y r_24 hI hx hy hys c12_1 c27_17 c43_18 hb_19 hs_20 hb_21 c130_25)⟩
      · refine lv_iload_n hF.1 hF.2.1 dX12_areBoth_46 rfl (lv_at hl 3 rfl) ?_
        refine lv_goto (tgt := 51) hF.1 hF.2.1 dX12_areBoth_47 (by decide) ?_
        refine lv_istore (lv' := [(4, .int y), (3, .int y), (0, .ref (E.2.2 1299)), (1, .int x), (2, .int y)]) hF.1 hF.2.1 dX12_areBoth_51 hl (by decide) rfl (fun ls hl => ?_)
        refine lv_aload_n hF.1 hF.2.1 dX12_areBoth_53 rfl (lv_at hl 2 rfl) ?_
        refine q_get (v := .ref (E.2.2 1233)) hF hU dX12_areBoth_54 0 12 33 1233 1299 rfl rfl rfl rfl inX12 (by decide) (by decide) w_1365 rfl rfl ?_
        refine lv_aload_n hF.1 hF.2.1 dX12_areBoth_57 rfl (lv_at hl 2 rfl) ?_
        refine q_get (v := .ref (E.2.2 1248)) hF hU dX12_areBoth_58 0 12 48 1248 1299 rfl rfl rfl rfl inX12 (by decide) (by decide) w_1380 rfl rfl ?_
        refine lv_iload_n hF.1 hF.2.1 dX12_areBoth_61 rfl (lv_at hl 3 rfl) ?_
        refine q_iald (v := u.2.1 1248 (x : Int32).toNatClampNeg) hF hU dX12_areBoth_62 27 1248 rfl rfl (g_X12_areBoth_v55 u x y hI hx hy hys c12_1 c27_17 c43_18) rfl ?_
        have hb_26 : 0 ≤ (u.2.1 1248 (x : Int32).toNatClampNeg) ∧ (u.2.1 1248 (x : Int32).toNatClampNeg) < u.1 1232 := hI.2.1.r1248 x (g_X12_areBoth_v56 u x y hI hx hy hys c12_1 c27_17 c43_18)
        have hs_27 : 0 ≤ u.1 1232 ∧ u.1 1232 ≤ 20 := hI.1.s1232
        refine q_iald (v := u.2.1 1233 (u.2.1 1248 (x : Int32).toNatClampNeg : Int32).toNatClampNeg) hF hU dX12_areBoth_63 19 1233 rfl rfl (g_X12_areBoth_v57 u x y hI hx hy hys c12_1 c27_17 c43_18 hb_26 hs_27) rfl ?_
        refine lv_aload_n hF.1 hF.2.1 dX12_areBoth_64 rfl (lv_at hl 2 rfl) ?_
        refine q_get (v := .ref (E.2.2 1234)) hF hU dX12_areBoth_65 0 12 34 1234 1299 rfl rfl rfl rfl inX12 (by decide) (by decide) w_1366 rfl rfl ?_
        refine lv_aload_n hF.1 hF.2.1 dX12_areBoth_68 rfl (lv_at hl 2 rfl) ?_
        refine q_get (v := .ref (E.2.2 1248)) hF hU dX12_areBoth_69 0 12 48 1248 1299 rfl rfl rfl rfl inX12 (by decide) (by decide) w_1380 rfl rfl ?_
        refine lv_iload_n hF.1 hF.2.1 dX12_areBoth_72 rfl (lv_at hl 3 rfl) ?_
        refine q_iald (v := u.2.1 1248 (x : Int32).toNatClampNeg) hF hU dX12_areBoth_73 27 1248 rfl rfl (g_X12_areBoth_v58 u x y hI hx hy hys c12_1 c27_17 c43_18 hb_26 hs_27) rfl ?_
        refine q_iald (v := u.2.1 1234 (u.2.1 1248 (x : Int32).toNatClampNeg : Int32).toNatClampNeg) hF hU dX12_areBoth_74 20 1234 rfl rfl (g_X12_areBoth_v60 u x y hI hx hy hys c12_1 c27_17 c43_18 hb_26 hs_27) rfl ?_
        refine lv_aload_n hF.1 hF.2.1 dX12_areBoth_75 rfl (lv_at hl 2 rfl) ?_
        refine q_get (v := .ref (E.2.2 1233)) hF hU dX12_areBoth_76 0 12 33 1233 1299 rfl rfl rfl rfl inX12 (by decide) (by decide) w_1365 rfl rfl ?_
        refine lv_aload_n hF.1 hF.2.1 dX12_areBoth_79 rfl (lv_at hl 2 rfl) ?_
        refine q_get (v := .ref (E.2.2 1248)) hF hU dX12_areBoth_80 0 12 48 1248 1299 rfl rfl rfl rfl inX12 (by decide) (by decide) w_1380 rfl rfl ?_
        refine lv_iload_n hF.1 hF.2.1 dX12_areBoth_83 rfl (lv_at hl 4 rfl) ?_
        refine q_iald (v := u.2.1 1248 (y : Int32).toNatClampNeg) hF hU dX12_areBoth_84 27 1248 rfl rfl (g_X12_areBoth_v61 u x y hI hx hy hys c12_1 c27_17 c43_18 hb_26 hs_27) rfl ?_
        have hb_28 : 0 ≤ (u.2.1 1248 (y : Int32).toNatClampNeg) ∧ (u.2.1 1248 (y : Int32).toNatClampNeg) < u.1 1232 := hI.2.1.r1248 y (g_X12_areBoth_v62 u x y hI hx hy hys c12_1 c27_17 c43_18 hb_26 hs_27)
        refine q_iald (v := u.2.1 1233 (u.2.1 1248 (y : Int32).toNatClampNeg : Int32).toNatClampNeg) hF hU dX12_areBoth_85 19 1233 rfl rfl (g_X12_areBoth_v63 u x y hI hx hy hys c12_1 c27_17 c43_18 hb_26 hs_27 hb_28) rfl ?_
        refine lv_aload_n hF.1 hF.2.1 dX12_areBoth_86 rfl (lv_at hl 2 rfl) ?_
        refine q_get (v := .ref (E.2.2 1234)) hF hU dX12_areBoth_87 0 12 34 1234 1299 rfl rfl rfl rfl inX12 (by decide) (by decide) w_1366 rfl rfl ?_
        refine lv_aload_n hF.1 hF.2.1 dX12_areBoth_90 rfl (lv_at hl 2 rfl) ?_
        refine q_get (v := .ref (E.2.2 1248)) hF hU dX12_areBoth_91 0 12 48 1248 1299 rfl rfl rfl rfl inX12 (by decide) (by decide) w_1380 rfl rfl ?_
        refine lv_iload_n hF.1 hF.2.1 dX12_areBoth_94 rfl (lv_at hl 4 rfl) ?_
        refine q_iald (v := u.2.1 1248 (y : Int32).toNatClampNeg) hF hU dX12_areBoth_95 27 1248 rfl rfl (g_X12_areBoth_v64 u x y hI hx hy hys c12_1 c27_17 c43_18 hb_26 hs_27 hb_28) rfl ?_
        refine q_iald (v := u.2.1 1234 (u.2.1 1248 (y : Int32).toNatClampNeg : Int32).toNatClampNeg) hF hU dX12_areBoth_96 20 1234 rfl rfl (g_X12_areBoth_v66 u x y hI hx hy hys c12_1 c27_17 c43_18 hb_26 hs_27 hb_28) rfl ?_
        have hM9 := g_X12_wayBetween l E A u (u.2.1 1233 (u.2.1 1248 (x : Int32).toNatClampNeg : Int32).toNatClampNeg) (u.2.1 1234 (u.2.1 1248 (x : Int32).toNatClampNeg : Int32).toNatClampNeg) (u.2.1 1233 (u.2.1 1248 (y : Int32).toNatClampNeg : Int32).toNatClampNeg) (u.2.1 1234 (u.2.1 1248 (y : Int32).toNatClampNeg : Int32).toNatClampNeg)
        have hR9 := q_runS (l := l) (e := e0) (below := bl0) (meth := me0) (R := qR 1 0 0) (cells := 0) (slots := 0) (st0 := [.int (u.2.1 1234 (u.2.1 1248 (y : Int32).toNatClampNeg : Int32).toNatClampNeg), .int (u.2.1 1233 (u.2.1 1248 (y : Int32).toNatClampNeg : Int32).toNatClampNeg), .int (u.2.1 1234 (u.2.1 1248 (x : Int32).toNatClampNeg : Int32).toNatClampNeg), .int (u.2.1 1233 (u.2.1 1248 (x : Int32).toNatClampNeg : Int32).toNatClampNeg)]) (rest := []) hF hU hS hA 4 hM9 w_1791 w_1792 w_107 w_1793 (by decide +kernel) ⟨Nat.le_of_ble_eq_true rfl, Nat.le_of_ble_eq_true rfl⟩ dX12_areBoth_97 rfl hl.1 rfl (Nat.le_of_ble_eq_true rfl) ⟨Nat.le_of_ble_eq_true rfl, Nat.le_of_ble_eq_true rfl⟩
        refine q_calli hR9 hU.2.2.2 hS (fun r_31 u_29 H locs hw_30 hU hS => ?_)
        obtain ⟨hw_30_e, hw_30⟩ := hw_30
        rw [hw_30_e] at hU
        refine lv_istore (lv' := [(5, .int r_31), (4, .int y), (3, .int y), (0, .ref (E.2.2 1299)), (1, .int x), (2, .int y)]) hF.1 hF.2.1 dX12_areBoth_100 hl (by decide) rfl (fun ls hl => ?_)
        refine lv_aload_n hF.1 hF.2.1 dX12_areBoth_102 rfl (lv_at hl 3 rfl) ?_
        refine q_get (v := .ref (E.2.2 1251)) hF hU dX12_areBoth_103 0 12 51 1251 1299 rfl rfl rfl rfl inX12 (by decide) (by decide) w_1383 rfl rfl ?_
        refine lv_iload hF.1 hF.2.1 dX12_areBoth_106 (lv_at hl 1 rfl) ?_
        refine q_iald (v := u.2.1 1251 (y : Int32).toNatClampNeg) hF hU dX12_areBoth_108 30 1251 rfl rfl (g_X12_areBoth_v67 u x y hI hx hy hys c12_1 c27_17 c43_18 hb_26 hs_27 hb_28) rfl ?_
        refine lv_aload_n hF.1 hF.2.1 dX12_areBoth_109 rfl (lv_at hl 3 rfl) ?_
        refine q_get (v := .ref (E.2.2 1251)) hF hU dX12_areBoth_110 0 12 51 1251 1299 rfl rfl rfl rfl inX12 (by decide) (by decide) w_1383 rfl rfl ?_
        refine lv_iload_n hF.1 hF.2.1 dX12_areBoth_113 rfl (lv_at hl 2 rfl) ?_
        refine q_iald (v := u.2.1 1251 (y : Int32).toNatClampNeg) hF hU dX12_areBoth_114 30 1251 rfl rfl (g_X12_areBoth_v68 u x y hI hx hy hys c12_1 c27_17 c43_18 hb_26 hs_27 hb_28) rfl ?_
        refine lv_aload_n hF.1 hF.2.1 dX12_areBoth_115 rfl (lv_at hl 3 rfl) ?_
        refine q_get (v := .ref (E.2.2 1252)) hF hU dX12_areBoth_116 0 12 52 1252 1299 rfl rfl rfl rfl inX12 (by decide) (by decide) w_1384 rfl rfl ?_
        refine lv_iload_n hF.1 hF.2.1 dX12_areBoth_119 rfl (lv_at hl 2 rfl) ?_
        refine q_iald (v := u.2.1 1252 (y : Int32).toNatClampNeg) hF hU dX12_areBoth_120 31 1252 rfl rfl (g_X12_areBoth_v69 u x y hI hx hy hys c12_1 c27_17 c43_18 hb_26 hs_27 hb_28) rfl ?_
        refine lv_iadd hF.1 hF.2.1 dX12_areBoth_121 ?_
        refine lv_aload_n hF.1 hF.2.1 dX12_areBoth_122 rfl (lv_at hl 3 rfl) ?_
        refine q_get (v := .int (u.1 1242)) hF hU dX12_areBoth_123 0 12 42 1242 1299 rfl rfl rfl rfl inX12 (by decide) (by decide) w_1374 rfl rfl ?_
        refine lv_iload hF.1 hF.2.1 dX12_areBoth_126 (lv_at hl 0 rfl) ?_
        refine lv_imul hF.1 hF.2.1 dX12_areBoth_128 ?_
        refine lv_iadd hF.1 hF.2.1 dX12_areBoth_129 ?_
        refine lv_icmp_lt (tgt := 137) hF.1 hF.2.1 dX12_areBoth_130 (by decide) (fun c130_32 => ?_) (fun c130_32 => ?_)
        · refine lv_iconst (v := 0) hF.1 hF.2.1 dX12_areBoth_137 (by decide) ?_
          exact q_iret hF hr (by decide) hlocks hU hS dX12_areBoth_138 ⟨rfl, (g_X12_areBoth_v70 u x y r_31 hI hx hy hys c12_1 c27_17 c43_18 hb_26 hs_27 hb_28 c130_32)⟩
        · refine lv_iconst (v := 1) hF.1 hF.2.1 dX12_areBoth_133 (by decide) ?_
          refine lv_goto (tgt := 138) hF.1 hF.2.1 dX12_areBoth_134 (by decide) ?_
          exact q_iret hF hr (by decide) hlocks hU hS dX12_areBoth_138 ⟨rfl, (g_X12_areBoth_v71 u x y r_31 hI hx hy hys c12_1 c27_17 c43_18 hb_26 hs_27 hb_28 c130_32)⟩
    · refine lv_iload_n hF.1 hF.2.1 dX12_areBoth_30 rfl (lv_at hl 1 rfl) ?_
      refine lv_iload_n hF.1 hF.2.1 dX12_areBoth_31 rfl (lv_at hl 2 rfl) ?_
      refine lv_icmp_ge (tgt := 39) hF.1 hF.2.1 dX12_areBoth_32 (by decide) (fun c32_33 => ?_) (fun c32_33 => ?_)
      · refine lv_iload_n hF.1 hF.2.1 dX12_areBoth_39 rfl (lv_at hl 2 rfl) ?_
        refine lv_istore_n (lv' := [(3, .int y), (0, .ref (E.2.2 1299)), (1, .int x), (2, .int y)]) hF.1 hF.2.1 dX12_areBoth_40 rfl hl (by decide) rfl (fun ls hl => ?_)
        refine lv_iload_n hF.1 hF.2.1 dX12_areBoth_41 rfl (lv_at hl 0 rfl) ?_
        refine lv_iload_n hF.1 hF.2.1 dX12_areBoth_42 rfl (lv_at hl 2 rfl) ?_
        refine lv_icmp_ne (tgt := 50) hF.1 hF.2.1 dX12_areBoth_43 (by decide) (fun c43_34 => ?_) (fun c43_34 => ?_)
        · refine lv_iload_n hF.1 hF.2.1 dX12_areBoth_50 rfl (lv_at hl 2 rfl) ?_
          refine lv_istore (lv' := [(4, .int x), (3, .int y), (0, .ref (E.2.2 1299)), (1, .int x), (2, .int y)]) hF.1 hF.2.1 dX12_areBoth_51 hl (by decide) rfl (fun ls hl => ?_)
          refine lv_aload_n hF.1 hF.2.1 dX12_areBoth_53 rfl (lv_at hl 2 rfl) ?_
          refine q_get (v := .ref (E.2.2 1233)) hF hU dX12_areBoth_54 0 12 33 1233 1299 rfl rfl rfl rfl inX12 (by decide) (by decide) w_1365 rfl rfl ?_
          refine lv_aload_n hF.1 hF.2.1 dX12_areBoth_57 rfl (lv_at hl 2 rfl) ?_
          refine q_get (v := .ref (E.2.2 1248)) hF hU dX12_areBoth_58 0 12 48 1248 1299 rfl rfl rfl rfl inX12 (by decide) (by decide) w_1380 rfl rfl ?_
          refine lv_iload_n hF.1 hF.2.1 dX12_areBoth_61 rfl (lv_at hl 3 rfl) ?_
          refine q_iald (v := u.2.1 1248 (x : Int32).toNatClampNeg) hF hU dX12_areBoth_62 27 1248 rfl rfl (g_X12_areBoth_v72 u x y hI hx hy hys c12_1 c27_17 c32_33 c43_34) rfl ?_
          have hb_35 : 0 ≤ (u.2.1 1248 (x : Int32).toNatClampNeg) ∧ (u.2.1 1248 (x : Int32).toNatClampNeg) < u.1 1232 := hI.2.1.r1248 x (g_X12_areBoth_v73 u x y hI hx hy hys c12_1 c27_17 c32_33 c43_34)
          have hs_36 : 0 ≤ u.1 1232 ∧ u.1 1232 ≤ 20 := hI.1.s1232
          refine q_iald (v := u.2.1 1233 (u.2.1 1248 (x : Int32).toNatClampNeg : Int32).toNatClampNeg) hF hU dX12_areBoth_63 19 1233 rfl rfl (g_X12_areBoth_v74 u x y hI hx hy hys c12_1 c27_17 c32_33 c43_34 hb_35 hs_36) rfl ?_
          refine lv_aload_n hF.1 hF.2.1 dX12_areBoth_64 rfl (lv_at hl 2 rfl) ?_
          refine q_get (v := .ref (E.2.2 1234)) hF hU dX12_areBoth_65 0 12 34 1234 1299 rfl rfl rfl rfl inX12 (by decide) (by decide) w_1366 rfl rfl ?_
          refine lv_aload_n hF.1 hF.2.1 dX12_areBoth_68 rfl (lv_at hl 2 rfl) ?_
          refine q_get (v := .ref (E.2.2 1248)) hF hU dX12_areBoth_69 0 12 48 1248 1299 rfl rfl rfl rfl inX12 (by decide) (by decide) w_1380 rfl rfl ?_
          refine lv_iload_n hF.1 hF.2.1 dX12_areBoth_72 rfl (lv_at hl 3 rfl) ?_
          refine q_iald (v := u.2.1 1248 (x : Int32).toNatClampNeg) hF hU dX12_areBoth_73 27 1248 rfl rfl (g_X12_areBoth_v75 u x y hI hx hy hys c12_1 c27_17 c32_33 c43_34 hb_35 hs_36) rfl ?_
          refine q_iald (v := u.2.1 1234 (u.2.1 1248 (x : Int32).toNatClampNeg : Int32).toNatClampNeg) hF hU dX12_areBoth_74 20 1234 rfl rfl (g_X12_areBoth_v77 u x y hI hx hy hys c12_1 c27_17 c32_33 c43_34 hb_35 hs_36) rfl ?_
          refine lv_aload_n hF.1 hF.2.1 dX12_areBoth_75 rfl (lv_at hl 2 rfl) ?_
          refine q_get (v := .ref (E.2.2 1233)) hF hU dX12_areBoth_76 0 12 33 1233 1299 rfl rfl rfl rfl inX12 (by decide) (by decide) w_1365 rfl rfl ?_
          refine lv_aload_n hF.1 hF.2.1 dX12_areBoth_79 rfl (lv_at hl 2 rfl) ?_
          refine q_get (v := .ref (E.2.2 1248)) hF hU dX12_areBoth_80 0 12 48 1248 1299 rfl rfl rfl rfl inX12 (by decide) (by decide) w_1380 rfl rfl ?_
          refine lv_iload_n hF.1 hF.2.1 dX12_areBoth_83 rfl (lv_at hl 4 rfl) ?_
          refine q_iald (v := u.2.1 1248 (y : Int32).toNatClampNeg) hF hU dX12_areBoth_84 27 1248 rfl rfl (g_X12_areBoth_v78 u x y hI hx hy hys c12_1 c27_17 c32_33 c43_34 hb_35 hs_36) rfl ?_
          have hb_37 : 0 ≤ (u.2.1 1248 (y : Int32).toNatClampNeg) ∧ (u.2.1 1248 (y : Int32).toNatClampNeg) < u.1 1232 := hI.2.1.r1248 y (g_X12_areBoth_v79 u x y hI hx hy hys c12_1 c27_17 c32_33 c43_34 hb_35 hs_36)
          refine q_iald (v := u.2.1 1233 (u.2.1 1248 (y : Int32).toNatClampNeg : Int32).toNatClampNeg) hF hU dX12_areBoth_85 19 1233 rfl rfl (g_X12_areBoth_v80 u x y hI hx hy hys c12_1 c27_17 c32_33 c43_34 hb_35 hs_36 hb_37) rfl ?_
          refine lv_aload_n hF.1 hF.2.1 dX12_areBoth_86 rfl (lv_at hl 2 rfl) ?_
          refine q_get (v := .ref (E.2.2 1234)) hF hU dX12_areBoth_87 0 12 34 1234 1299 rfl rfl rfl rfl inX12 (by decide) (by decide) w_1366 rfl rfl ?_
          refine lv_aload_n hF.1 hF.2.1 dX12_areBoth_90 rfl (lv_at hl 2 rfl) ?_
          refine q_get (v := .ref (E.2.2 1248)) hF hU dX12_areBoth_91 0 12 48 1248 1299 rfl rfl rfl rfl inX12 (by decide) (by decide) w_1380 rfl rfl ?_
          refine lv_iload_n hF.1 hF.2.1 dX12_areBoth_94 rfl (lv_at hl 4 rfl) ?_
          refine q_iald (v := u.2.1 1248 (y : Int32).toNatClampNeg) hF hU dX12_areBoth_95 27 1248 rfl rfl (g_X12_areBoth_v81 u x y hI hx hy hys c12_1 c27_17 c32_33 c43_34 hb_35 hs_36 hb_37) rfl ?_
          refine q_iald (v := u.2.1 1234 (u.2.1 1248 (y : Int32).toNatClampNeg : Int32).toNatClampNeg) hF hU dX12_areBoth_96 20 1234 rfl rfl (g_X12_areBoth_v83 u x y hI hx hy hys c12_1 c27_17 c32_33 c43_34 hb_35 hs_36 hb_37) rfl ?_
          have hM9 := g_X12_wayBetween l E A u (u.2.1 1233 (u.2.1 1248 (x : Int32).toNatClampNeg : Int32).toNatClampNeg) (u.2.1 1234 (u.2.1 1248 (x : Int32).toNatClampNeg : Int32).toNatClampNeg) (u.2.1 1233 (u.2.1 1248 (y : Int32).toNatClampNeg : Int32).toNatClampNeg) (u.2.1 1234 (u.2.1 1248 (y : Int32).toNatClampNeg : Int32).toNatClampNeg)
          have hR9 := q_runS (l := l) (e := e0) (below := bl0) (meth := me0) (R := qR 1 0 0) (cells := 0) (slots := 0) (st0 := [.int (u.2.1 1234 (u.2.1 1248 (y : Int32).toNatClampNeg : Int32).toNatClampNeg), .int (u.2.1 1233 (u.2.1 1248 (y : Int32).toNatClampNeg : Int32).toNatClampNeg), .int (u.2.1 1234 (u.2.1 1248 (x : Int32).toNatClampNeg : Int32).toNatClampNeg), .int (u.2.1 1233 (u.2.1 1248 (x : Int32).toNatClampNeg : Int32).toNatClampNeg)]) (rest := []) hF hU hS hA 4 hM9 w_1791 w_1792 w_107 w_1793 (by decide +kernel) ⟨Nat.le_of_ble_eq_true rfl, Nat.le_of_ble_eq_true rfl⟩ dX12_areBoth_97 rfl hl.1 rfl (Nat.le_of_ble_eq_true rfl) ⟨Nat.le_of_ble_eq_true rfl, Nat.le_of_ble_eq_true rfl⟩
          refine q_calli hR9 hU.2.2.2 hS (fun r_40 u_38 H locs hw_39 hU hS => ?_)
          obtain ⟨hw_39_e, hw_39⟩ := hw_39
          rw [hw_39_e] at hU
          refine lv_istore (lv' := [(5, .int r_40), (4, .int x), (3, .int y), (0, .ref (E.2.2 1299)), (1, .int x), (2, .int y)]) hF.1 hF.2.1 dX12_areBoth_100 hl (by decide) rfl (fun ls hl => ?_)
          refine lv_aload_n hF.1 hF.2.1 dX12_areBoth_102 rfl (lv_at hl 3 rfl) ?_
          refine q_get (v := .ref (E.2.2 1251)) hF hU dX12_areBoth_103 0 12 51 1251 1299 rfl rfl rfl rfl inX12 (by decide) (by decide) w_1383 rfl rfl ?_
          refine lv_iload hF.1 hF.2.1 dX12_areBoth_106 (lv_at hl 1 rfl) ?_
          refine q_iald (v := u.2.1 1251 (x : Int32).toNatClampNeg) hF hU dX12_areBoth_108 30 1251 rfl rfl (g_X12_areBoth_v84 u x y hI hx hy hys c12_1 c27_17 c32_33 c43_34 hb_35 hs_36 hb_37) rfl ?_
          refine lv_aload_n hF.1 hF.2.1 dX12_areBoth_109 rfl (lv_at hl 3 rfl) ?_
          refine q_get (v := .ref (E.2.2 1251)) hF hU dX12_areBoth_110 0 12 51 1251 1299 rfl rfl rfl rfl inX12 (by decide) (by decide) w_1383 rfl rfl ?_
          refine lv_iload_n hF.1 hF.2.1 dX12_areBoth_113 rfl (lv_at hl 2 rfl) ?_
          refine q_iald (v := u.2.1 1251 (y : Int32).toNatClampNeg) hF hU dX12_areBoth_114 30 1251 rfl rfl (g_X12_areBoth_v85 u x y hI hx hy hys c12_1 c27_17 c32_33 c43_34 hb_35 hs_36 hb_37) rfl ?_
          refine lv_aload_n hF.1 hF.2.1 dX12_areBoth_115 rfl (lv_at hl 3 rfl) ?_
          refine q_get (v := .ref (E.2.2 1252)) hF hU dX12_areBoth_116 0 12 52 1252 1299 rfl rfl rfl rfl inX12 (by decide) (by decide) w_1384 rfl rfl ?_
          refine lv_iload_n hF.1 hF.2.1 dX12_areBoth_119 rfl (lv_at hl 2 rfl) ?_
          refine q_iald (v := u.2.1 1252 (y : Int32).toNatClampNeg) hF hU dX12_areBoth_120 31 1252 rfl rfl (g_X12_areBoth_v86 u x y hI hx hy hys c12_1 c27_17 c32_33 c43_34 hb_35 hs_36 hb_37) rfl ?_
          refine lv_iadd hF.1 hF.2.1 dX12_areBoth_121 ?_
          refine lv_aload_n hF.1 hF.2.1 dX12_areBoth_122 rfl (lv_at hl 3 rfl) ?_
          refine q_get (v := .int (u.1 1242)) hF hU dX12_areBoth_123 0 12 42 1242 1299 rfl rfl rfl rfl inX12 (by decide) (by decide) w_1374 rfl rfl ?_
          refine lv_iload hF.1 hF.2.1 dX12_areBoth_126 (lv_at hl 0 rfl) ?_
          refine lv_imul hF.1 hF.2.1 dX12_areBoth_128 ?_
          refine lv_iadd hF.1 hF.2.1 dX12_areBoth_129 ?_
          refine lv_icmp_lt (tgt := 137) hF.1 hF.2.1 dX12_areBoth_130 (by decide) (fun c130_41 => ?_) (fun c130_41 => ?_)
          · refine lv_iconst (v := 0) hF.1 hF.2.1 dX12_areBoth_137 (by decide) ?_
            exact q_iret hF hr (by decide) hlocks hU hS dX12_areBoth_138 ⟨rfl, (g_X12_areBoth_v87 u x y r_40 hI hx hy hys c12_1 c27_17 c32_33 c43_34 hb_35 hs_36 hb_37 c130_41)⟩
          · refine lv_iconst (v := 1) hF.1 hF.2.1 dX12_areBoth_133 (by decide) ?_
            refine lv_goto (tgt := 138) hF.1 hF.2.1 dX12_areBoth_134 (by decide) ?_
            exact q_iret hF hr (by decide) hlocks hU hS dX12_areBoth_138 ⟨rfl, (g_X12_areBoth_v88 u x y r_40 hI hx hy hys c12_1 c27_17 c32_33 c43_34 hb_35 hs_36 hb_37 c130_41)⟩
        · refine lv_iload_n hF.1 hF.2.1 dX12_areBoth_46 rfl (lv_at hl 3 rfl) ?_
          refine lv_goto (tgt := 51) hF.1 hF.2.1 dX12_areBoth_47 (by decide) ?_
          refine lv_istore (lv' := [(4, .int y), (3, .int y), (0, .ref (E.2.2 1299)), (1, .int x), (2, .int y)]) hF.1 hF.2.1 dX12_areBoth_51 hl (by decide) rfl (fun ls hl => ?_)
          refine lv_aload_n hF.1 hF.2.1 dX12_areBoth_53 rfl (lv_at hl 2 rfl) ?_
          refine q_get (v := .ref (E.2.2 1233)) hF hU dX12_areBoth_54 0 12 33 1233 1299 rfl rfl rfl rfl inX12 (by decide) (by decide) w_1365 rfl rfl ?_
          refine lv_aload_n hF.1 hF.2.1 dX12_areBoth_57 rfl (lv_at hl 2 rfl) ?_
          refine q_get (v := .ref (E.2.2 1248)) hF hU dX12_areBoth_58 0 12 48 1248 1299 rfl rfl rfl rfl inX12 (by decide) (by decide) w_1380 rfl rfl ?_
          refine lv_iload_n hF.1 hF.2.1 dX12_areBoth_61 rfl (lv_at hl 3 rfl) ?_
          refine q_iald (v := u.2.1 1248 (x : Int32).toNatClampNeg) hF hU dX12_areBoth_62 27 1248 rfl rfl (g_X12_areBoth_v89 u x y hI hx hy hys c12_1 c27_17 c32_33 c43_34) rfl ?_
          have hb_42 : 0 ≤ (u.2.1 1248 (x : Int32).toNatClampNeg) ∧ (u.2.1 1248 (x : Int32).toNatClampNeg) < u.1 1232 := hI.2.1.r1248 x (g_X12_areBoth_v90 u x y hI hx hy hys c12_1 c27_17 c32_33 c43_34)
          have hs_43 : 0 ≤ u.1 1232 ∧ u.1 1232 ≤ 20 := hI.1.s1232
          refine q_iald (v := u.2.1 1233 (u.2.1 1248 (x : Int32).toNatClampNeg : Int32).toNatClampNeg) hF hU dX12_areBoth_63 19 1233 rfl rfl (g_X12_areBoth_v91 u x y hI hx hy hys c12_1 c27_17 c32_33 c43_34 hb_42 hs_43) rfl ?_
          refine lv_aload_n hF.1 hF.2.1 dX12_areBoth_64 rfl (lv_at hl 2 rfl) ?_
          refine q_get (v := .ref (E.2.2 1234)) hF hU dX12_areBoth_65 0 12 34 1234 1299 rfl rfl rfl rfl inX12 (by decide) (by decide) w_1366 rfl rfl ?_
          refine lv_aload_n hF.1 hF.2.1 dX12_areBoth_68 rfl (lv_at hl 2 rfl) ?_
          refine q_get (v := .ref (E.2.2 1248)) hF hU dX12_areBoth_69 0 12 48 1248 1299 rfl rfl rfl rfl inX12 (by decide) (by decide) w_1380 rfl rfl ?_
          refine lv_iload_n hF.1 hF.2.1 dX12_areBoth_72 rfl (lv_at hl 3 rfl) ?_
          refine q_iald (v := u.2.1 1248 (x : Int32).toNatClampNeg) hF hU dX12_areBoth_73 27 1248 rfl rfl (g_X12_areBoth_v92 u x y hI hx hy hys c12_1 c27_17 c32_33 c43_34 hb_42 hs_43) rfl ?_
          refine q_iald (v := u.2.1 1234 (u.2.1 1248 (x : Int32).toNatClampNeg : Int32).toNatClampNeg) hF hU dX12_areBoth_74 20 1234 rfl rfl (g_X12_areBoth_v94 u x y hI hx hy hys c12_1 c27_17 c32_33 c43_34 hb_42 hs_43) rfl ?_
          refine lv_aload_n hF.1 hF.2.1 dX12_areBoth_75 rfl (lv_at hl 2 rfl) ?_
          refine q_get (v := .ref (E.2.2 1233)) hF hU dX12_areBoth_76 0 12 33 1233 1299 rfl rfl rfl rfl inX12 (by decide) (by decide) w_1365 rfl rfl ?_
          refine lv_aload_n hF.1 hF.2.1 dX12_areBoth_79 rfl (lv_at hl 2 rfl) ?_
          refine q_get (v := .ref (E.2.2 1248)) hF hU dX12_areBoth_80 0 12 48 1248 1299 rfl rfl rfl rfl inX12 (by decide) (by decide) w_1380 rfl rfl ?_
          refine lv_iload_n hF.1 hF.2.1 dX12_areBoth_83 rfl (lv_at hl 4 rfl) ?_
          refine q_iald (v := u.2.1 1248 (y : Int32).toNatClampNeg) hF hU dX12_areBoth_84 27 1248 rfl rfl (g_X12_areBoth_v95 u x y hI hx hy hys c12_1 c27_17 c32_33 c43_34 hb_42 hs_43) rfl ?_
          have hb_44 : 0 ≤ (u.2.1 1248 (y : Int32).toNatClampNeg) ∧ (u.2.1 1248 (y : Int32).toNatClampNeg) < u.1 1232 := hI.2.1.r1248 y (g_X12_areBoth_v96 u x y hI hx hy hys c12_1 c27_17 c32_33 c43_34 hb_42 hs_43)
          refine q_iald (v := u.2.1 1233 (u.2.1 1248 (y : Int32).toNatClampNeg : Int32).toNatClampNeg) hF hU dX12_areBoth_85 19 1233 rfl rfl (g_X12_areBoth_v97 u x y hI hx hy hys c12_1 c27_17 c32_33 c43_34 hb_42 hs_43 hb_44) rfl ?_
          refine lv_aload_n hF.1 hF.2.1 dX12_areBoth_86 rfl (lv_at hl 2 rfl) ?_
          refine q_get (v := .ref (E.2.2 1234)) hF hU dX12_areBoth_87 0 12 34 1234 1299 rfl rfl rfl rfl inX12 (by decide) (by decide) w_1366 rfl rfl ?_
          refine lv_aload_n hF.1 hF.2.1 dX12_areBoth_90 rfl (lv_at hl 2 rfl) ?_
          refine q_get (v := .ref (E.2.2 1248)) hF hU dX12_areBoth_91 0 12 48 1248 1299 rfl rfl rfl rfl inX12 (by decide) (by decide) w_1380 rfl rfl ?_
          refine lv_iload_n hF.1 hF.2.1 dX12_areBoth_94 rfl (lv_at hl 4 rfl) ?_
          refine q_iald (v := u.2.1 1248 (y : Int32).toNatClampNeg) hF hU dX12_areBoth_95 27 1248 rfl rfl (g_X12_areBoth_v98 u x y hI hx hy hys c12_1 c27_17 c32_33 c43_34 hb_42 hs_43 hb_44) rfl ?_
          refine q_iald (v := u.2.1 1234 (u.2.1 1248 (y : Int32).toNatClampNeg : Int32).toNatClampNeg) hF hU dX12_areBoth_96 20 1234 rfl rfl (g_X12_areBoth_v100 u x y hI hx hy hys c12_1 c27_17 c32_33 c43_34 hb_42 hs_43 hb_44) rfl ?_
          have hM9 := g_X12_wayBetween l E A u (u.2.1 1233 (u.2.1 1248 (x : Int32).toNatClampNeg : Int32).toNatClampNeg) (u.2.1 1234 (u.2.1 1248 (x : Int32).toNatClampNeg : Int32).toNatClampNeg) (u.2.1 1233 (u.2.1 1248 (y : Int32).toNatClampNeg : Int32).toNatClampNeg) (u.2.1 1234 (u.2.1 1248 (y : Int32).toNatClampNeg : Int32).toNatClampNeg)
          have hR9 := q_runS (l := l) (e := e0) (below := bl0) (meth := me0) (R := qR 1 0 0) (cells := 0) (slots := 0) (st0 := [.int (u.2.1 1234 (u.2.1 1248 (y : Int32).toNatClampNeg : Int32).toNatClampNeg), .int (u.2.1 1233 (u.2.1 1248 (y : Int32).toNatClampNeg : Int32).toNatClampNeg), .int (u.2.1 1234 (u.2.1 1248 (x : Int32).toNatClampNeg : Int32).toNatClampNeg), .int (u.2.1 1233 (u.2.1 1248 (x : Int32).toNatClampNeg : Int32).toNatClampNeg)]) (rest := []) hF hU hS hA 4 hM9 w_1791 w_1792 w_107 w_1793 (by decide +kernel) ⟨Nat.le_of_ble_eq_true rfl, Nat.le_of_ble_eq_true rfl⟩ dX12_areBoth_97 rfl hl.1 rfl (Nat.le_of_ble_eq_true rfl) ⟨Nat.le_of_ble_eq_true rfl, Nat.le_of_ble_eq_true rfl⟩
          refine q_calli hR9 hU.2.2.2 hS (fun r_47 u_45 H locs hw_46 hU hS => ?_)
          obtain ⟨hw_46_e, hw_46⟩ := hw_46
          rw [hw_46_e] at hU
          refine lv_istore (lv' := [(5, .int r_47), (4, .int y), (3, .int y), (0, .ref (E.2.2 1299)), (1, .int x), (2, .int y)]) hF.1 hF.2.1 dX12_areBoth_100 hl (by decide) rfl (fun ls hl => ?_)
          refine lv_aload_n hF.1 hF.2.1 dX12_areBoth_102 rfl (lv_at hl 3 rfl) ?_
          refine q_get (v := .ref (E.2.2 1251)) hF hU dX12_areBoth_103 0 12 51 1251 1299 rfl rfl rfl rfl inX12 (by decide) (by decide) w_1383 rfl rfl ?_
          refine lv_iload hF.1 hF.2.1 dX12_areBoth_106 (lv_at hl 1 rfl) ?_
          refine q_iald (v := u.2.1 1251 (y : Int32).toNatClampNeg) hF hU dX12_areBoth_108 30 1251 rfl rfl (g_X12_areBoth_v101 u x y hI hx hy hys c12_1 c27_17 c32_33 c43_34 hb_42 hs_43 hb_44) rfl ?_
          refine lv_aload_n hF.1 hF.2.1 dX12_areBoth_109 rfl (lv_at hl 3 rfl) ?_
          refine q_get (v := .ref (E.2.2 1251)) hF hU dX12_areBoth_110 0 12 51 1251 1299 rfl rfl rfl rfl inX12 (by decide) (by decide) w_1383 rfl rfl ?_
          refine lv_iload_n hF.1 hF.2.1 dX12_areBoth_113 rfl (lv_at hl 2 rfl) ?_
          refine q_iald (v := u.2.1 1251 (y : Int32).toNatClampNeg) hF hU dX12_areBoth_114 30 1251 rfl rfl (g_X12_areBoth_v102 u x y hI hx hy hys c12_1 c27_17 c32_33 c43_34 hb_42 hs_43 hb_44) rfl ?_
          refine lv_aload_n hF.1 hF.2.1 dX12_areBoth_115 rfl (lv_at hl 3 rfl) ?_
          refine q_get (v := .ref (E.2.2 1252)) hF hU dX12_areBoth_116 0 12 52 1252 1299 rfl rfl rfl rfl inX12 (by decide) (by decide) w_1384 rfl rfl ?_
          refine lv_iload_n hF.1 hF.2.1 dX12_areBoth_119 rfl (lv_at hl 2 rfl) ?_
          refine q_iald (v := u.2.1 1252 (y : Int32).toNatClampNeg) hF hU dX12_areBoth_120 31 1252 rfl rfl (g_X12_areBoth_v103 u x y hI hx hy hys c12_1 c27_17 c32_33 c43_34 hb_42 hs_43 hb_44) rfl ?_
          refine lv_iadd hF.1 hF.2.1 dX12_areBoth_121 ?_
          refine lv_aload_n hF.1 hF.2.1 dX12_areBoth_122 rfl (lv_at hl 3 rfl) ?_
          refine q_get (v := .int (u.1 1242)) hF hU dX12_areBoth_123 0 12 42 1242 1299 rfl rfl rfl rfl inX12 (by decide) (by decide) w_1374 rfl rfl ?_
          refine lv_iload hF.1 hF.2.1 dX12_areBoth_126 (lv_at hl 0 rfl) ?_
          refine lv_imul hF.1 hF.2.1 dX12_areBoth_128 ?_
          refine lv_iadd hF.1 hF.2.1 dX12_areBoth_129 ?_
          refine lv_icmp_lt (tgt := 137) hF.1 hF.2.1 dX12_areBoth_130 (by decide) (fun c130_48 => ?_) (fun c130_48 => ?_)
          · refine lv_iconst (v := 0) hF.1 hF.2.1 dX12_areBoth_137 (by decide) ?_
            exact q_iret hF hr (by decide) hlocks hU hS dX12_areBoth_138 ⟨rfl, (g_X12_areBoth_v104 u x y r_47 hI hx hy hys c12_1 c27_17 c32_33 c43_34 hb_42 hs_43 hb_44 c130_48)⟩
          · refine lv_iconst (v := 1) hF.1 hF.2.1 dX12_areBoth_133 (by decide) ?_
            refine lv_goto (tgt := 138) hF.1 hF.2.1 dX12_areBoth_134 (by decide) ?_
            exact q_iret hF hr (by decide) hlocks hU hS dX12_areBoth_138 ⟨rfl, (g_X12_areBoth_v105 u x y r_47 hI hx hy hys c12_1 c27_17 c32_33 c43_34 hb_42 hs_43 hb_44 c130_48)⟩
      · refine lv_iload_n hF.1 hF.2.1 dX12_areBoth_35 rfl (lv_at hl 1 rfl) ?_
        refine lv_goto (tgt := 40) hF.1 hF.2.1 dX12_areBoth_36 (by decide) ?_
        refine lv_istore_n (lv' := [(3, .int x), (0, .ref (E.2.2 1299)), (1, .int x), (2, .int y)]) hF.1 hF.2.1 dX12_areBoth_40 rfl hl (by decide) rfl (fun ls hl => ?_)
        refine lv_iload_n hF.1 hF.2.1 dX12_areBoth_41 rfl (lv_at hl 0 rfl) ?_
        refine lv_iload_n hF.1 hF.2.1 dX12_areBoth_42 rfl (lv_at hl 2 rfl) ?_
        refine lv_icmp_ne (tgt := 50) hF.1 hF.2.1 dX12_areBoth_43 (by decide) (fun c43_49 => ?_) (fun c43_49 => ?_)
        · refine lv_iload_n hF.1 hF.2.1 dX12_areBoth_50 rfl (lv_at hl 2 rfl) ?_
          refine lv_istore (lv' := [(4, .int x), (3, .int x), (0, .ref (E.2.2 1299)), (1, .int x), (2, .int y)]) hF.1 hF.2.1 dX12_areBoth_51 hl (by decide) rfl (fun ls hl => ?_)
          refine lv_aload_n hF.1 hF.2.1 dX12_areBoth_53 rfl (lv_at hl 2 rfl) ?_
          refine q_get (v := .ref (E.2.2 1233)) hF hU dX12_areBoth_54 0 12 33 1233 1299 rfl rfl rfl rfl inX12 (by decide) (by decide) w_1365 rfl rfl ?_
          refine lv_aload_n hF.1 hF.2.1 dX12_areBoth_57 rfl (lv_at hl 2 rfl) ?_
          refine q_get (v := .ref (E.2.2 1248)) hF hU dX12_areBoth_58 0 12 48 1248 1299 rfl rfl rfl rfl inX12 (by decide) (by decide) w_1380 rfl rfl ?_
          refine lv_iload_n hF.1 hF.2.1 dX12_areBoth_61 rfl (lv_at hl 3 rfl) ?_
          refine q_iald (v := u.2.1 1248 (x : Int32).toNatClampNeg) hF hU dX12_areBoth_62 27 1248 rfl rfl (g_X12_areBoth_v106 u x y hI hx hy hys c12_1 c27_17 c32_33 c43_49) rfl ?_
          have hb_50 : 0 ≤ (u.2.1 1248 (x : Int32).toNatClampNeg) ∧ (u.2.1 1248 (x : Int32).toNatClampNeg) < u.1 1232 := hI.2.1.r1248 x (g_X12_areBoth_v107 u x y hI hx hy hys c12_1 c27_17 c32_33 c43_49)
          have hs_51 : 0 ≤ u.1 1232 ∧ u.1 1232 ≤ 20 := hI.1.s1232
          refine q_iald (v := u.2.1 1233 (u.2.1 1248 (x : Int32).toNatClampNeg : Int32).toNatClampNeg) hF hU dX12_areBoth_63 19 1233 rfl rfl (g_X12_areBoth_v108 u x y hI hx hy hys c12_1 c27_17 c32_33 c43_49 hb_50 hs_51) rfl ?_
          refine lv_aload_n hF.1 hF.2.1 dX12_areBoth_64 rfl (lv_at hl 2 rfl) ?_
          refine q_get (v := .ref (E.2.2 1234)) hF hU dX12_areBoth_65 0 12 34 1234 1299 rfl rfl rfl rfl inX12 (by decide) (by decide) w_1366 rfl rfl ?_
          refine lv_aload_n hF.1 hF.2.1 dX12_areBoth_68 rfl (lv_at hl 2 rfl) ?_
          refine q_get (v := .ref (E.2.2 1248)) hF hU dX12_areBoth_69 0 12 48 1248 1299 rfl rfl rfl rfl inX12 (by decide) (by decide) w_1380 rfl rfl ?_
          refine lv_iload_n hF.1 hF.2.1 dX12_areBoth_72 rfl (lv_at hl 3 rfl) ?_
          refine q_iald (v := u.2.1 1248 (x : Int32).toNatClampNeg) hF hU dX12_areBoth_73 27 1248 rfl rfl (g_X12_areBoth_v109 u x y hI hx hy hys c12_1 c27_17 c32_33 c43_49 hb_50 hs_51) rfl ?_
          refine q_iald (v := u.2.1 1234 (u.2.1 1248 (x : Int32).toNatClampNeg : Int32).toNatClampNeg) hF hU dX12_areBoth_74 20 1234 rfl rfl (g_X12_areBoth_v111 u x y hI hx hy hys c12_1 c27_17 c32_33 c43_49 hb_50 hs_51) rfl ?_
          refine lv_aload_n hF.1 hF.2.1 dX12_areBoth_75 rfl (lv_at hl 2 rfl) ?_
          refine q_get (v := .ref (E.2.2 1233)) hF hU dX12_areBoth_76 0 12 33 1233 1299 rfl rfl rfl rfl inX12 (by decide) (by decide) w_1365 rfl rfl ?_
          refine lv_aload_n hF.1 hF.2.1 dX12_areBoth_79 rfl (lv_at hl 2 rfl) ?_
          refine q_get (v := .ref (E.2.2 1248)) hF hU dX12_areBoth_80 0 12 48 1248 1299 rfl rfl rfl rfl inX12 (by decide) (by decide) w_1380 rfl rfl ?_
          refine lv_iload_n hF.1 hF.2.1 dX12_areBoth_83 rfl (lv_at hl 4 rfl) ?_
          refine q_iald (v := u.2.1 1248 (y : Int32).toNatClampNeg) hF hU dX12_areBoth_84 27 1248 rfl rfl (g_X12_areBoth_v112 u x y hI hx hy hys c12_1 c27_17 c32_33 c43_49 hb_50 hs_51) rfl ?_
          have hb_52 : 0 ≤ (u.2.1 1248 (y : Int32).toNatClampNeg) ∧ (u.2.1 1248 (y : Int32).toNatClampNeg) < u.1 1232 := hI.2.1.r1248 y (g_X12_areBoth_v113 u x y hI hx hy hys c12_1 c27_17 c32_33 c43_49 hb_50 hs_51)
          refine q_iald (v := u.2.1 1233 (u.2.1 1248 (y : Int32).toNatClampNeg : Int32).toNatClampNeg) hF hU dX12_areBoth_85 19 1233 rfl rfl (g_X12_areBoth_v114 u x y hI hx hy hys c12_1 c27_17 c32_33 c43_49 hb_50 hs_51 hb_52) rfl ?_
          refine lv_aload_n hF.1 hF.2.1 dX12_areBoth_86 rfl (lv_at hl 2 rfl) ?_
          refine q_get (v := .ref (E.2.2 1234)) hF hU dX12_areBoth_87 0 12 34 1234 1299 rfl rfl rfl rfl inX12 (by decide) (by decide) w_1366 rfl rfl ?_
          refine lv_aload_n hF.1 hF.2.1 dX12_areBoth_90 rfl (lv_at hl 2 rfl) ?_
          refine q_get (v := .ref (E.2.2 1248)) hF hU dX12_areBoth_91 0 12 48 1248 1299 rfl rfl rfl rfl inX12 (by decide) (by decide) w_1380 rfl rfl ?_
          refine lv_iload_n hF.1 hF.2.1 dX12_areBoth_94 rfl (lv_at hl 4 rfl) ?_
          refine q_iald (v := u.2.1 1248 (y : Int32).toNatClampNeg) hF hU dX12_areBoth_95 27 1248 rfl rfl (g_X12_areBoth_v115 u x y hI hx hy hys c12_1 c27_17 c32_33 c43_49 hb_50 hs_51 hb_52) rfl ?_
          refine q_iald (v := u.2.1 1234 (u.2.1 1248 (y : Int32).toNatClampNeg : Int32).toNatClampNeg) hF hU dX12_areBoth_96 20 1234 rfl rfl (g_X12_areBoth_v117 u x y hI hx hy hys c12_1 c27_17 c32_33 c43_49 hb_50 hs_51 hb_52) rfl ?_
          have hM9 := g_X12_wayBetween l E A u (u.2.1 1233 (u.2.1 1248 (x : Int32).toNatClampNeg : Int32).toNatClampNeg) (u.2.1 1234 (u.2.1 1248 (x : Int32).toNatClampNeg : Int32).toNatClampNeg) (u.2.1 1233 (u.2.1 1248 (y : Int32).toNatClampNeg : Int32).toNatClampNeg) (u.2.1 1234 (u.2.1 1248 (y : Int32).toNatClampNeg : Int32).toNatClampNeg)
          have hR9 := q_runS (l := l) (e := e0) (below := bl0) (meth := me0) (R := qR 1 0 0) (cells := 0) (slots := 0) (st0 := [.int (u.2.1 1234 (u.2.1 1248 (y : Int32).toNatClampNeg : Int32).toNatClampNeg), .int (u.2.1 1233 (u.2.1 1248 (y : Int32).toNatClampNeg : Int32).toNatClampNeg), .int (u.2.1 1234 (u.2.1 1248 (x : Int32).toNatClampNeg : Int32).toNatClampNeg), .int (u.2.1 1233 (u.2.1 1248 (x : Int32).toNatClampNeg : Int32).toNatClampNeg)]) (rest := []) hF hU hS hA 4 hM9 w_1791 w_1792 w_107 w_1793 (by decide +kernel) ⟨Nat.le_of_ble_eq_true rfl, Nat.le_of_ble_eq_true rfl⟩ dX12_areBoth_97 rfl hl.1 rfl (Nat.le_of_ble_eq_true rfl) ⟨Nat.le_of_ble_eq_true rfl, Nat.le_of_ble_eq_true rfl⟩
          refine q_calli hR9 hU.2.2.2 hS (fun r_55 u_53 H locs hw_54 hU hS => ?_)
          obtain ⟨hw_54_e, hw_54⟩ := hw_54
          rw [hw_54_e] at hU
          refine lv_istore (lv' := [(5, .int r_55), (4, .int x), (3, .int x), (0, .ref (E.2.2 1299)), (1, .int x), (2, .int y)]) hF.1 hF.2.1 dX12_areBoth_100 hl (by decide) rfl (fun ls hl => ?_)
          refine lv_aload_n hF.1 hF.2.1 dX12_areBoth_102 rfl (lv_at hl 3 rfl) ?_
          refine q_get (v := .ref (E.2.2 1251)) hF hU dX12_areBoth_103 0 12 51 1251 1299 rfl rfl rfl rfl inX12 (by decide) (by decide) w_1383 rfl rfl ?_
          refine lv_iload hF.1 hF.2.1 dX12_areBoth_106 (lv_at hl 1 rfl) ?_
          refine q_iald (v := u.2.1 1251 (x : Int32).toNatClampNeg) hF hU dX12_areBoth_108 30 1251 rfl rfl (g_X12_areBoth_v118 u x y hI hx hy hys c12_1 c27_17 c32_33 c43_49 hb_50 hs_51 hb_52) rfl ?_
          refine lv_aload_n hF.1 hF.2.1 dX12_areBoth_109 rfl (lv_at hl 3 rfl) ?_
          refine q_get (v := .ref (E.2.2 1251)) hF hU dX12_areBoth_110 0 12 51 1251 1299 rfl rfl rfl rfl inX12 (by decide) (by decide) w_1383 rfl rfl ?_
          refine lv_iload_n hF.1 hF.2.1 dX12_areBoth_113 rfl (lv_at hl 2 rfl) ?_
          refine q_iald (v := u.2.1 1251 (x : Int32).toNatClampNeg) hF hU dX12_areBoth_114 30 1251 rfl rfl (g_X12_areBoth_v119 u x y hI hx hy hys c12_1 c27_17 c32_33 c43_49 hb_50 hs_51 hb_52) rfl ?_
          refine lv_aload_n hF.1 hF.2.1 dX12_areBoth_115 rfl (lv_at hl 3 rfl) ?_
          refine q_get (v := .ref (E.2.2 1252)) hF hU dX12_areBoth_116 0 12 52 1252 1299 rfl rfl rfl rfl inX12 (by decide) (by decide) w_1384 rfl rfl ?_
          refine lv_iload_n hF.1 hF.2.1 dX12_areBoth_119 rfl (lv_at hl 2 rfl) ?_
          refine q_iald (v := u.2.1 1252 (x : Int32).toNatClampNeg) hF hU dX12_areBoth_120 31 1252 rfl rfl (g_X12_areBoth_v120 u x y hI hx hy hys c12_1 c27_17 c32_33 c43_49 hb_50 hs_51 hb_52) rfl ?_
          refine lv_iadd hF.1 hF.2.1 dX12_areBoth_121 ?_
          refine lv_aload_n hF.1 hF.2.1 dX12_areBoth_122 rfl (lv_at hl 3 rfl) ?_
          refine q_get (v := .int (u.1 1242)) hF hU dX12_areBoth_123 0 12 42 1242 1299 rfl rfl rfl rfl inX12 (by decide) (by decide) w_1374 rfl rfl ?_
          refine lv_iload hF.1 hF.2.1 dX12_areBoth_126 (lv_at hl 0 rfl) ?_
          refine lv_imul hF.1 hF.2.1 dX12_areBoth_128 ?_
          refine lv_iadd hF.1 hF.2.1 dX12_areBoth_129 ?_
          refine lv_icmp_lt (tgt := 137) hF.1 hF.2.1 dX12_areBoth_130 (by decide) (fun c130_56 => ?_) (fun c130_56 => ?_)
          · refine lv_iconst (v := 0) hF.1 hF.2.1 dX12_areBoth_137 (by decide) ?_
            exact q_iret hF hr (by decide) hlocks hU hS dX12_areBoth_138 ⟨rfl, (g_X12_areBoth_v121 u x y r_55 hI hx hy hys c12_1 c27_17 c32_33 c43_49 hb_50 hs_51 hb_52 c130_56)⟩
          · refine lv_iconst (v := 1) hF.1 hF.2.1 dX12_areBoth_133 (by decide) ?_
            refine lv_goto (tgt := 138) hF.1 hF.2.1 dX12_areBoth_134 (by decide) ?_
            exact q_iret hF hr (by decide) hlocks hU hS dX12_areBoth_138 ⟨rfl, (g_X12_areBoth_v122 u x y r_55 hI hx hy hys c12_1 c27_17 c32_33 c43_49 hb_50 hs_51 hb_52 c130_56)⟩
        · refine lv_iload_n hF.1 hF.2.1 dX12_areBoth_46 rfl (lv_at hl 3 rfl) ?_
          refine lv_goto (tgt := 51) hF.1 hF.2.1 dX12_areBoth_47 (by decide) ?_
          refine lv_istore (lv' := [(4, .int y), (3, .int x), (0, .ref (E.2.2 1299)), (1, .int x), (2, .int y)]) hF.1 hF.2.1 dX12_areBoth_51 hl (by decide) rfl (fun ls hl => ?_)
          refine lv_aload_n hF.1 hF.2.1 dX12_areBoth_53 rfl (lv_at hl 2 rfl) ?_
          refine q_get (v := .ref (E.2.2 1233)) hF hU dX12_areBoth_54 0 12 33 1233 1299 rfl rfl rfl rfl inX12 (by decide) (by decide) w_1365 rfl rfl ?_
          refine lv_aload_n hF.1 hF.2.1 dX12_areBoth_57 rfl (lv_at hl 2 rfl) ?_
          refine q_get (v := .ref (E.2.2 1248)) hF hU dX12_areBoth_58 0 12 48 1248 1299 rfl rfl rfl rfl inX12 (by decide) (by decide) w_1380 rfl rfl ?_
          refine lv_iload_n hF.1 hF.2.1 dX12_areBoth_61 rfl (lv_at hl 3 rfl) ?_
          refine q_iald (v := u.2.1 1248 (x : Int32).toNatClampNeg) hF hU dX12_areBoth_62 27 1248 rfl rfl (g_X12_areBoth_v123 u x y hI hx hy hys c12_1 c27_17 c32_33 c43_49) rfl ?_
          have hb_57 : 0 ≤ (u.2.1 1248 (x : Int32).toNatClampNeg) ∧ (u.2.1 1248 (x : Int32).toNatClampNeg) < u.1 1232 := hI.2.1.r1248 x (g_X12_areBoth_v124 u x y hI hx hy hys c12_1 c27_17 c32_33 c43_49)
          have hs_58 : 0 ≤ u.1 1232 ∧ u.1 1232 ≤ 20 := hI.1.s1232
          refine q_iald (v := u.2.1 1233 (u.2.1 1248 (x : Int32).toNatClampNeg : Int32).toNatClampNeg) hF hU dX12_areBoth_63 19 1233 rfl rfl (g_X12_areBoth_v125 u x y hI hx hy hys c12_1 c27_17 c32_33 c43_49 hb_57 hs_58) rfl ?_
          refine lv_aload_n hF.1 hF.2.1 dX12_areBoth_64 rfl (lv_at hl 2 rfl) ?_
          refine q_get (v := .ref (E.2.2 1234)) hF hU dX12_areBoth_65 0 12 34 1234 1299 rfl rfl rfl rfl inX12 (by decide) (by decide) w_1366 rfl rfl ?_
          refine lv_aload_n hF.1 hF.2.1 dX12_areBoth_68 rfl (lv_at hl 2 rfl) ?_
          refine q_get (v := .ref (E.2.2 1248)) hF hU dX12_areBoth_69 0 12 48 1248 1299 rfl rfl rfl rfl inX12 (by decide) (by decide) w_1380 rfl rfl ?_
          refine lv_iload_n hF.1 hF.2.1 dX12_areBoth_72 rfl (lv_at hl 3 rfl) ?_
          refine q_iald (v := u.2.1 1248 (x : Int32).toNatClampNeg) hF hU dX12_areBoth_73 27 1248 rfl rfl (g_X12_areBoth_v126 u x y hI hx hy hys c12_1 c27_17 c32_33 c43_49 hb_57 hs_58) rfl ?_
          refine q_iald (v := u.2.1 1234 (u.2.1 1248 (x : Int32).toNatClampNeg : Int32).toNatClampNeg) hF hU dX12_areBoth_74 20 1234 rfl rfl (g_X12_areBoth_v128 u x y hI hx hy hys c12_1 c27_17 c32_33 c43_49 hb_57 hs_58) rfl ?_
          refine lv_aload_n hF.1 hF.2.1 dX12_areBoth_75 rfl (lv_at hl 2 rfl) ?_
          refine q_get (v := .ref (E.2.2 1233)) hF hU dX12_areBoth_76 0 12 33 1233 1299 rfl rfl rfl rfl inX12 (by decide) (by decide) w_1365 rfl rfl ?_
          refine lv_aload_n hF.1 hF.2.1 dX12_areBoth_79 rfl (lv_at hl 2 rfl) ?_
          refine q_get (v := .ref (E.2.2 1248)) hF hU dX12_areBoth_80 0 12 48 1248 1299 rfl rfl rfl rfl inX12 (by decide) (by decide) w_1380 rfl rfl ?_
          refine lv_iload_n hF.1 hF.2.1 dX12_areBoth_83 rfl (lv_at hl 4 rfl) ?_
          refine q_iald (v := u.2.1 1248 (y : Int32).toNatClampNeg) hF hU dX12_areBoth_84 27 1248 rfl rfl (g_X12_areBoth_v129 u x y hI hx hy hys c12_1 c27_17 c32_33 c43_49 hb_57 hs_58) rfl ?_
          have hb_59 : 0 ≤ (u.2.1 1248 (y : Int32).toNatClampNeg) ∧ (u.2.1 1248 (y : Int32).toNatClampNeg) < u.1 1232 := hI.2.1.r1248 y (g_X12_areBoth_v130 u x y hI hx hy hys c12_1 c27_17 c32_33 c43_49 hb_57 hs_58)
          refine q_iald (v := u.2.1 1233 (u.2.1 1248 (y : Int32).toNatClampNeg : Int32).toNatClampNeg) hF hU dX12_areBoth_85 19 1233 rfl rfl (g_X12_areBoth_v131 u x y hI hx hy hys c12_1 c27_17 c32_33 c43_49 hb_57 hs_58 hb_59) rfl ?_
          refine lv_aload_n hF.1 hF.2.1 dX12_areBoth_86 rfl (lv_at hl 2 rfl) ?_
          refine q_get (v := .ref (E.2.2 1234)) hF hU dX12_areBoth_87 0 12 34 1234 1299 rfl rfl rfl rfl inX12 (by decide) (by decide) w_1366 rfl rfl ?_
          refine lv_aload_n hF.1 hF.2.1 dX12_areBoth_90 rfl (lv_at hl 2 rfl) ?_
          refine q_get (v := .ref (E.2.2 1248)) hF hU dX12_areBoth_91 0 12 48 1248 1299 rfl rfl rfl rfl inX12 (by decide) (by decide) w_1380 rfl rfl ?_
          refine lv_iload_n hF.1 hF.2.1 dX12_areBoth_94 rfl (lv_at hl 4 rfl) ?_
          refine q_iald (v := u.2.1 1248 (y : Int32).toNatClampNeg) hF hU dX12_areBoth_95 27 1248 rfl rfl (g_X12_areBoth_v132 u x y hI hx hy hys c12_1 c27_17 c32_33 c43_49 hb_57 hs_58 hb_59) rfl ?_
          refine q_iald (v := u.2.1 1234 (u.2.1 1248 (y : Int32).toNatClampNeg : Int32).toNatClampNeg) hF hU dX12_areBoth_96 20 1234 rfl rfl (g_X12_areBoth_v134 u x y hI hx hy hys c12_1 c27_17 c32_33 c43_49 hb_57 hs_58 hb_59) rfl ?_
          have hM9 := g_X12_wayBetween l E A u (u.2.1 1233 (u.2.1 1248 (x : Int32).toNatClampNeg : Int32).toNatClampNeg) (u.2.1 1234 (u.2.1 1248 (x : Int32).toNatClampNeg : Int32).toNatClampNeg) (u.2.1 1233 (u.2.1 1248 (y : Int32).toNatClampNeg : Int32).toNatClampNeg) (u.2.1 1234 (u.2.1 1248 (y : Int32).toNatClampNeg : Int32).toNatClampNeg)
          have hR9 := q_runS (l := l) (e := e0) (below := bl0) (meth := me0) (R := qR 1 0 0) (cells := 0) (slots := 0) (st0 := [.int (u.2.1 1234 (u.2.1 1248 (y : Int32).toNatClampNeg : Int32).toNatClampNeg), .int (u.2.1 1233 (u.2.1 1248 (y : Int32).toNatClampNeg : Int32).toNatClampNeg), .int (u.2.1 1234 (u.2.1 1248 (x : Int32).toNatClampNeg : Int32).toNatClampNeg), .int (u.2.1 1233 (u.2.1 1248 (x : Int32).toNatClampNeg : Int32).toNatClampNeg)]) (rest := []) hF hU hS hA 4 hM9 w_1791 w_1792 w_107 w_1793 (by decide +kernel) ⟨Nat.le_of_ble_eq_true rfl, Nat.le_of_ble_eq_true rfl⟩ dX12_areBoth_97 rfl hl.1 rfl (Nat.le_of_ble_eq_true rfl) ⟨Nat.le_of_ble_eq_true rfl, Nat.le_of_ble_eq_true rfl⟩
          refine q_calli hR9 hU.2.2.2 hS (fun r_62 u_60 H locs hw_61 hU hS => ?_)
          obtain ⟨hw_61_e, hw_61⟩ := hw_61
          rw [hw_61_e] at hU
          refine lv_istore (lv' := [(5, .int r_62), (4, .int y), (3, .int x), (0, .ref (E.2.2 1299)), (1, .int x), (2, .int y)]) hF.1 hF.2.1 dX12_areBoth_100 hl (by decide) rfl (fun ls hl => ?_)
          refine lv_aload_n hF.1 hF.2.1 dX12_areBoth_102 rfl (lv_at hl 3 rfl) ?_
          refine q_get (v := .ref (E.2.2 1251)) hF hU dX12_areBoth_103 0 12 51 1251 1299 rfl rfl rfl rfl inX12 (by decide) (by decide) w_1383 rfl rfl ?_
          refine lv_iload hF.1 hF.2.1 dX12_areBoth_106 (lv_at hl 1 rfl) ?_
          refine q_iald (v := u.2.1 1251 (y : Int32).toNatClampNeg) hF hU dX12_areBoth_108 30 1251 rfl rfl (g_X12_areBoth_v135 u x y hI hx hy hys c12_1 c27_17 c32_33 c43_49 hb_57 hs_58 hb_59) rfl ?_
          refine lv_aload_n hF.1 hF.2.1 dX12_areBoth_109 rfl (lv_at hl 3 rfl) ?_
          refine q_get (v := .ref (E.2.2 1251)) hF hU dX12_areBoth_110 0 12 51 1251 1299 rfl rfl rfl rfl inX12 (by decide) (by decide) w_1383 rfl rfl ?_
          refine lv_iload_n hF.1 hF.2.1 dX12_areBoth_113 rfl (lv_at hl 2 rfl) ?_
          refine q_iald (v := u.2.1 1251 (x : Int32).toNatClampNeg) hF hU dX12_areBoth_114 30 1251 rfl rfl (g_X12_areBoth_v136 u x y hI hx hy hys c12_1 c27_17 c32_33 c43_49 hb_57 hs_58 hb_59) rfl ?_
          refine lv_aload_n hF.1 hF.2.1 dX12_areBoth_115 rfl (lv_at hl 3 rfl) ?_
          refine q_get (v := .ref (E.2.2 1252)) hF hU dX12_areBoth_116 0 12 52 1252 1299 rfl rfl rfl rfl inX12 (by decide) (by decide) w_1384 rfl rfl ?_
          refine lv_iload_n hF.1 hF.2.1 dX12_areBoth_119 rfl (lv_at hl 2 rfl) ?_
          refine q_iald (v := u.2.1 1252 (x : Int32).toNatClampNeg) hF hU dX12_areBoth_120 31 1252 rfl rfl (g_X12_areBoth_v137 u x y hI hx hy hys c12_1 c27_17 c32_33 c43_49 hb_57 hs_58 hb_59) rfl ?_
          refine lv_iadd hF.1 hF.2.1 dX12_areBoth_121 ?_
          refine lv_aload_n hF.1 hF.2.1 dX12_areBoth_122 rfl (lv_at hl 3 rfl) ?_
          refine q_get (v := .int (u.1 1242)) hF hU dX12_areBoth_123 0 12 42 1242 1299 rfl rfl rfl rfl inX12 (by decide) (by decide) w_1374 rfl rfl ?_
          refine lv_iload hF.1 hF.2.1 dX12_areBoth_126 (lv_at hl 0 rfl) ?_
          refine lv_imul hF.1 hF.2.1 dX12_areBoth_128 ?_
          refine lv_iadd hF.1 hF.2.1 dX12_areBoth_129 ?_
          refine lv_icmp_lt (tgt := 137) hF.1 hF.2.1 dX12_areBoth_130 (by decide) (fun c130_63 => ?_) (fun c130_63 => ?_)
          · refine lv_iconst (v := 0) hF.1 hF.2.1 dX12_areBoth_137 (by decide) ?_
            exact q_iret hF hr (by decide) hlocks hU hS dX12_areBoth_138 ⟨rfl, (g_X12_areBoth_v138 u x y r_62 hI hx hy hys c12_1 c27_17 c32_33 c43_49 hb_57 hs_58 hb_59 c130_63)⟩
          · refine lv_iconst (v := 1) hF.1 hF.2.1 dX12_areBoth_133 (by decide) ?_
            refine lv_goto (tgt := 138) hF.1 hF.2.1 dX12_areBoth_134 (by decide) ?_
            exact q_iret hF hr (by decide) hlocks hU hS dX12_areBoth_138 ⟨rfl, (g_X12_areBoth_v139 u x y r_62 hI hx hy hys c12_1 c27_17 c32_33 c43_49 hb_57 hs_58 hb_59 c130_63)⟩
set_option maxRecDepth 100000 in
theorem g_X12_counts_v0 (u : qS) (x : Int32) (hI : IM u) (b2_4 : 0 ≤ x ∧ x < u.1 1247) : vp_in (x) 120 := by
  have hz1247 := hI.1.s1247
  refine g_in ?_ ?_ <;> ((try simp only [Int32.lt_iff_toInt_lt, Int32.le_iff_toInt_le, ← Int32.toInt_inj, Int32.toInt_add, Int32.toInt_sub, Int32.toInt_mul, Int32.toInt_neg, Int32.reduceToInt, g_bm, g_bm'] at *); omega)
set_option maxRecDepth 100000 in
theorem g_X12_counts_v1 (u : qS) (x : Int32) (hI : IM u) (b2_4 : 0 ≤ x ∧ x < u.1 1247) (c14_5 : (u.2.1 1264 (x : Int32).toNatClampNeg : Int32) = 0) : (1 = (1 : Int32) ∧ (0 ≤ x ∧ x < u.1 1247)) ∨ 1 = (0 : Int32) := by
  have hz1247 := hI.1.s1247
  first | omega | ((try simp only [Int32.lt_iff_toInt_lt, Int32.le_iff_toInt_le, ← Int32.toInt_inj, Int32.toInt_add, Int32.toInt_sub, Int32.toInt_mul, Int32.toInt_neg, Int32.reduceToInt, g_bm, g_bm'] at *); omega) | (simp only [Int32.lt_iff_toInt_lt, Int32.le_iff_toInt_le, ← Int32.toInt_inj, Int32.toInt_add, Int32.toInt_sub, Int32.toInt_mul, Int32.toInt_neg, Int32.reduceToInt, g_bm, g_bm'] at *; simp at *; omega) | (simp_all; done)
set_option maxRecDepth 100000 in
theorem g_X12_counts_v2 (u : qS) (x : Int32) (hI : IM u) (b2_4 : 0 ≤ x ∧ x < u.1 1247) (c14_5 : ¬ (u.2.1 1264 (x : Int32).toNatClampNeg : Int32) = 0) : vp_in (x) 120 := by
  have hz1247 := hI.1.s1247
  refine g_in ?_ ?_ <;> ((try simp only [Int32.lt_iff_toInt_lt, Int32.le_iff_toInt_le, ← Int32.toInt_inj, Int32.toInt_add, Int32.toInt_sub, Int32.toInt_mul, Int32.toInt_neg, Int32.reduceToInt, g_bm, g_bm'] at *); omega)
set_option maxRecDepth 100000 in
theorem g_X12_counts_v3 (u : qS) (x : Int32) (hI : IM u) (b2_4 : 0 ≤ x ∧ x < u.1 1247) (c14_5 : ¬ (u.2.1 1264 (x : Int32).toNatClampNeg : Int32) = 0) (c24_6 : ¬ (u.2.1 1264 (x : Int32).toNatClampNeg : Int32) = 3) : (0 = (1 : Int32) ∧ (0 ≤ x ∧ x < u.1 1247)) ∨ 0 = (0 : Int32) := by
  have hz1247 := hI.1.s1247
  first | omega | ((try simp only [Int32.lt_iff_toInt_lt, Int32.le_iff_toInt_le, ← Int32.toInt_inj, Int32.toInt_add, Int32.toInt_sub, Int32.toInt_mul, Int32.toInt_neg, Int32.reduceToInt, g_bm, g_bm'] at *); omega) | (simp only [Int32.lt_iff_toInt_lt, Int32.le_iff_toInt_le, ← Int32.toInt_inj, Int32.toInt_add, Int32.toInt_sub, Int32.toInt_mul, Int32.toInt_neg, Int32.reduceToInt, g_bm, g_bm'] at *; simp at *; omega) | (simp_all; done)
set_option maxRecDepth 100000 in
theorem g_X12_counts_v4 (u : qS) (x : Int32) (hI : IM u) (b2_4 : 0 ≤ x ∧ x < u.1 1247) (c14_5 : ¬ (u.2.1 1264 (x : Int32).toNatClampNeg : Int32) = 0) (c24_6 : (u.2.1 1264 (x : Int32).toNatClampNeg : Int32) = 3) : (1 = (1 : Int32) ∧ (0 ≤ x ∧ x < u.1 1247)) ∨ 1 = (0 : Int32) := by
  have hz1247 := hI.1.s1247
  first | omega | ((try simp only [Int32.lt_iff_toInt_lt, Int32.le_iff_toInt_le, ← Int32.toInt_inj, Int32.toInt_add, Int32.toInt_sub, Int32.toInt_mul, Int32.toInt_neg, Int32.reduceToInt, g_bm, g_bm'] at *); omega) | (simp only [Int32.lt_iff_toInt_lt, Int32.le_iff_toInt_le, ← Int32.toInt_inj, Int32.toInt_add, Int32.toInt_sub, Int32.toInt_mul, Int32.toInt_neg, Int32.reduceToInt, g_bm, g_bm'] at *; simp at *; omega) | (simp_all; done)
set_option maxRecDepth 100000 in
theorem g_X12_counts_v5 (u : qS) (x : Int32) (hI : IM u) : (0 = (1 : Int32) ∧ (0 ≤ x ∧ x < u.1 1247)) ∨ 0 = (0 : Int32) := by
  have hz1247 := hI.1.s1247
  first | omega | ((try simp only [Int32.lt_iff_toInt_lt, Int32.le_iff_toInt_le, ← Int32.toInt_inj, Int32.toInt_add, Int32.toInt_sub, Int32.toInt_mul, Int32.toInt_neg, Int32.reduceToInt, g_bm, g_bm'] at *); omega) | (simp only [Int32.lt_iff_toInt_lt, Int32.le_iff_toInt_le, ← Int32.toInt_inj, Int32.toInt_add, Int32.toInt_sub, Int32.toInt_mul, Int32.toInt_neg, Int32.reduceToInt, g_bm, g_bm'] at *; simp at *; omega) | (simp_all; done)
set_option maxHeartbeats 1000000 in
set_option maxRecDepth 100000 in
theorem g_X12_counts (l : Launch) (E : qE) (A : Nat → Prop) (u : qS) (x : Int32) (hI : IM u) : Met l yX12_counts (uws yX12_counts cX12_counts 2 (some .boolean)) (qR 2 0 0) (qPc E A 1 u [.ref (E.2.2 1299), .int x]) (qQi E A 1 (fun r u1 => u1 = u ∧ ((r = 1 ∧ (0 ≤ x ∧ x < u.1 1247)) ∨ r = 0))) 0 0 A := by
  refine q_met (own := RX12) (f := 2) [.ref (E.2.2 1299), .int x] (by decide) (Nat.le_of_ble_eq_true rfl) rfl ?_
  intro p0 e0 s0 m0 bl0 me0 cd0 ls hF hr hlocks hU hS hA hl
  have hl : lv_has ls 2 [(0, .ref (E.2.2 1299)), (1, .int x)] := hl
  refine lv_aload_n hF.1 hF.2.1 dX12_counts_0 rfl (lv_at hl 0 rfl) ?_
  refine lv_iload_n hF.1 hF.2.1 dX12_counts_1 rfl (lv_at hl 1 rfl) ?_
  have hM9 := g_X12_isSeen l E A u x hI
  have hR9 := q_runV (l := l) (e := e0) (below := bl0) (meth := me0) (R := qR 2 0 0) (cells := 0) (slots := 0) (st0 := [.int x, .ref (E.2.2 1299)]) (rest := []) hF hU hS hA 1 0 12 1299 rfl rfl rfl hM9 w_1733 w_1735 w_71 w_107 w_1736 (by decide +kernel) ⟨Nat.le_of_ble_eq_true rfl, Nat.le_of_ble_eq_true rfl⟩ dX12_counts_2 rfl hl.1 rfl (Nat.le_of_ble_eq_true rfl) ⟨Nat.le_of_ble_eq_true rfl, Nat.le_of_ble_eq_true rfl⟩
  refine q_calli hR9 hU.2.2.2 hS (fun r_3 u_1 H locs hw_2 hU hS => ?_)
  obtain ⟨hw_2_e, hw_2⟩ := hw_2
  rw [hw_2_e] at hU
  have hw_2 : (r_3 = 1 ∧ (0 ≤ x ∧ x < u.1 1247)) ∨ r_3 = 0 := hw_2
  rcases hw_2 with ⟨rfl, b2_4⟩ | rfl
  · refine lv_if_eq (tgt := 31) hF.1 hF.2.1 dX12_counts_5 (by decide) (fun h9 => absurd h9 (by decide)) (fun _ => ?_)
    refine lv_aload_n hF.1 hF.2.1 dX12_counts_8 rfl (lv_at hl 0 rfl) ?_
    refine q_get (v := .ref (E.2.2 1264)) hF hU dX12_counts_9 0 12 64 1264 1299 rfl rfl rfl rfl inX12 (by decide) (by decide) w_1396 rfl rfl ?_
    refine lv_iload_n hF.1 hF.2.1 dX12_counts_12 rfl (lv_at hl 1 rfl) ?_
    refine q_iald (v := u.2.1 1264 (x : Int32).toNatClampNeg) hF hU dX12_counts_13 41 1264 rfl rfl (g_X12_counts_v0 u x hI b2_4) rfl ?_
    refine lv_if_eq (tgt := 27) hF.1 hF.2.1 dX12_counts_14 (by decide) (fun c14_5 => ?_) (fun c14_5 => ?_)
    · refine lv_iconst (v := 1) hF.1 hF.2.1 dX12_counts_27 (by decide) ?_
      refine lv_goto (tgt := 32) hF.1 hF.2.1 dX12_counts_28 (by decide) ?_
      exact q_iret hF hr (by decide) hlocks hU hS dX12_counts_32 ⟨rfl, (g_X12_counts_v1 u x hI b2_4 c14_5)⟩
    · refine lv_aload_n hF.1 hF.2.1 dX12_counts_17 rfl (lv_at hl 0 rfl) ?_
      refine q_get (v := .ref (E.2.2 1264)) hF hU dX12_counts_18 0 12 64 1264 1299 rfl rfl rfl rfl inX12 (by decide) (by decide) w_1396 rfl rfl ?_
      refine lv_iload_n hF.1 hF.2.1 dX12_counts_21 rfl (lv_at hl 1 rfl) ?_
      refine q_iald (v := u.2.1 1264 (x : Int32).toNatClampNeg) hF hU dX12_counts_22 41 1264 rfl rfl (g_X12_counts_v2 u x hI b2_4 c14_5) rfl ?_
      refine lv_iconst (v := 3) hF.1 hF.2.1 dX12_counts_23 (by decide) ?_
      refine lv_icmp_ne (tgt := 31) hF.1 hF.2.1 dX12_counts_24 (by decide) (fun c24_6 => ?_) (fun c24_6 => ?_)
      · refine lv_iconst (v := 0) hF.1 hF.2.1 dX12_counts_31 (by decide) ?_
        exact q_iret hF hr (by decide) hlocks hU hS dX12_counts_32 ⟨rfl, (g_X12_counts_v3 u x hI b2_4 c14_5 c24_6)⟩
      · refine lv_iconst (v := 1) hF.1 hF.2.1 dX12_counts_27 (by decide) ?_
        refine lv_goto (tgt := 32) hF.1 hF.2.1 dX12_counts_28 (by decide) ?_
        exact q_iret hF hr (by decide) hlocks hU hS dX12_counts_32 ⟨rfl, (g_X12_counts_v4 u x hI b2_4 c14_5 c24_6)⟩
  · refine lv_if_eq (tgt := 31) hF.1 hF.2.1 dX12_counts_5 (by decide) (fun _ => ?_) (fun h9 => absurd (by decide) h9)
    refine lv_iconst (v := 0) hF.1 hF.2.1 dX12_counts_31 (by decide) ?_
    exact q_iret hF hr (by decide) hlocks hU hS dX12_counts_32 ⟨rfl, (g_X12_counts_v5 u x hI)⟩
