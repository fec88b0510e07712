set_option maxHeartbeats 400000 in
set_option maxRecDepth 100000 in
theorem k_X12_thrown (l : Launch) (E : qE) (A : Nat → Prop) (u : qS) : Met l yX12_thrown (uws yX12_thrown cX12_thrown 1 (some .int)) (qR 0 0 0) (qPc E A 1 u [.ref (E.2.2 1299)]) (qQi E A 1 (fun r u1 => u1 = u ∧ r = u.1 1200)) 0 0 A := by
  refine q_met (own := RX12) (f := 0) [.ref (E.2.2 1299)] (by decide) (Nat.le_of_ble_eq_true rfl) rfl ?_
  intro p0 e0 s0 m0 bl0 me0 cd0 ls hF hr hlocks hU hS hA hl
  have hl : lv_has ls 1 [(0, .ref (E.2.2 1299))] := hl
  refine lv_aload_n hF.1 hF.2.1 dX12_thrown_0 rfl (lv_at hl 0 rfl) ?_
  refine q_get (v := .int (u.1 1200)) hF hU dX12_thrown_1 0 12 0 1200 1299 rfl rfl rfl rfl inX12 (by decide) (by decide) w_1333 rfl rfl ?_
  exact q_iret hF hr rfl hlocks hU hS dX12_thrown_4 (⟨rfl, rfl⟩)
theorem k_X12_within_r0 (a : Int32) (b : Int32) (c : Int32) (c2_1 : (a : Int32) < b) : (0 = (1 : Int32) ∧ (b ≤ a ∧ a ≤ c)) ∨ (0 = (0 : Int32) ∧ ¬ (b ≤ a ∧ a ≤ c)) := by
  first | rfl | (simp only [Int32.lt_iff_toInt_lt, Int32.le_iff_toInt_le, ← Int32.toInt_inj, Int32.zero_add, Int32.add_zero] at *; omega) | (simp only [Int32.lt_iff_toInt_lt, Int32.le_iff_toInt_le, ← Int32.toInt_inj, Int32.zero_add, Int32.add_zero] at *; done) | (simp only [Int32.lt_iff_toInt_lt, Int32.le_iff_toInt_le, ← Int32.toInt_inj, Int32.zero_add, Int32.add_zero] at *; simp at *; omega) | (simp at *; omega) | (simp_all; done)
theorem k_X12_within_r1 (a : Int32) (b : Int32) (c : Int32) (c2_1 : ¬ (a : Int32) < b) (c7_2 : c < (a : Int32)) : (0 = (1 : Int32) ∧ (b ≤ a ∧ a ≤ c)) ∨ (0 = (0 : Int32) ∧ ¬ (b ≤ a ∧ a ≤ c)) := by
  first | rfl | (simp only [Int32.lt_iff_toInt_lt, Int32.le_iff_toInt_le, ← Int32.toInt_inj, Int32.zero_add, Int32.add_zero] at *; omega) | (simp only [Int32.lt_iff_toInt_lt, Int32.le_iff_toInt_le, ← Int32.toInt_inj, Int32.zero_add, Int32.add_zero] at *; done) | (simp only [Int32.lt_iff_toInt_lt, Int32.le_iff_toInt_le, ← Int32.toInt_inj, Int32.zero_add, Int32.add_zero] at *; simp at *; omega) | (simp at *; omega) | (simp_all; done)
theorem k_X12_within_r2 (a : Int32) (b : Int32) (c : Int32) (c2_1 : ¬ (a : Int32) < b) (c7_2 : ¬ c < (a : Int32)) : (1 = (1 : Int32) ∧ (b ≤ a ∧ a ≤ c)) ∨ (1 = (0 : Int32) ∧ ¬ (b ≤ a ∧ a ≤ c)) := by
  first | rfl | (simp only [Int32.lt_iff_toInt_lt, Int32.le_iff_toInt_le, ← Int32.toInt_inj, Int32.zero_add, Int32.add_zero] at *; omega) | (simp only [Int32.lt_iff_toInt_lt, Int32.le_iff_toInt_le, ← Int32.toInt_inj, Int32.zero_add, Int32.add_zero] at *; done) | (simp only [Int32.lt_iff_toInt_lt, Int32.le_iff_toInt_le, ← Int32.toInt_inj, Int32.zero_add, Int32.add_zero] at *; simp at *; omega) | (simp at *; omega) | (simp_all; done)
set_option maxHeartbeats 400000 in
set_option maxRecDepth 100000 in
theorem k_X12_within (l : Launch) (E : qE) (A : Nat → Prop) (T : Nat) (u : qS) (a : Int32) (b : Int32) (c : Int32) : Met l yX12_within (uws yX12_within cX12_within 3 (some .boolean)) (qR 0 0 0) (qPc E A T u [.int a, .int b, .int c]) (qQi E A T (fun r u1 => u1 = u ∧ ((r = 1 ∧ (b ≤ a ∧ a ≤ c)) ∨ (r = 0 ∧ ¬ (b ≤ a ∧ a ≤ c))))) 0 0 A := by
  refine q_met (own := RX12) (f := 0) [.int a, .int b, .int c] (by decide) (Nat.le_of_ble_eq_true rfl) rfl ?_
  intro p0 e0 s0 m0 bl0 me0 cd0 ls hF hr hlocks hU hS hA hl
  have hl : lv_has ls 3 [(0, .int a), (1, .int b), (2, .int c)] := hl
  refine lv_iload_n hF.1 hF.2.1 dX12_within_0 rfl (lv_at hl 0 rfl) ?_
  refine lv_iload_n hF.1 hF.2.1 dX12_within_1 rfl (lv_at hl 1 rfl) ?_
  refine lv_icmp_lt (tgt := 14) hF.1 hF.2.1 dX12_within_2 (by decide) (fun c2_1 => ?_) (fun c2_1 => ?_)
  · refine lv_iconst (v := 0) hF.1 hF.2.1 dX12_within_14 (by decide) ?_
    exact q_iret hF hr (by decide) hlocks hU hS dX12_within_15 (⟨rfl, k_X12_within_r0 a b c c2_1⟩)
  · refine lv_iload_n hF.1 hF.2.1 dX12_within_5 rfl (lv_at hl 0 rfl) ?_
    refine lv_iload_n hF.1 hF.2.1 dX12_within_6 rfl (lv_at hl 2 rfl) ?_
    refine lv_icmp_gt (tgt := 14) hF.1 hF.2.1 dX12_within_7 (by decide) (fun c7_2 => ?_) (fun c7_2 => ?_)
    · refine lv_iconst (v := 0) hF.1 hF.2.1 dX12_within_14 (by decide) ?_
      exact q_iret hF hr (by decide) hlocks hU hS dX12_within_15 (⟨rfl, k_X12_within_r1 a b c c2_1 c7_2⟩)
    · refine lv_iconst (v := 1) hF.1 hF.2.1 dX12_within_10 (by decide) ?_
      refine lv_goto (tgt := 15) hF.1 hF.2.1 dX12_within_11 (by decide) ?_
      exact q_iret hF hr (by decide) hlocks hU hS dX12_within_15 (⟨rfl, k_X12_within_r2 a b c c2_1 c7_2⟩)
theorem k_X12_isPlace_r0 (x : Int32) (y : Int32) (b4_1 : 0 ≤ x ∧ x ≤ 99) (b14_2 : 0 ≤ y ∧ y ≤ 99) : (1 = (1 : Int32) ∧ ((0 ≤ x ∧ x ≤ 99) ∧ (0 ≤ y ∧ y ≤ 99))) ∨ (1 = (0 : Int32) ∧ ¬ ((0 ≤ x ∧ x ≤ 99) ∧ (0 ≤ y ∧ y ≤ 99))) := by
  first | rfl | (simp only [Int32.lt_iff_toInt_lt, Int32.le_iff_toInt_le, ← Int32.toInt_inj, Int32.zero_add, Int32.add_zero] at *; omega) | (simp only [Int32.lt_iff_toInt_lt, Int32.le_iff_toInt_le, ← Int32.toInt_inj, Int32.zero_add, Int32.add_zero] at *; done) | (simp only [Int32.lt_iff_toInt_lt, Int32.le_iff_toInt_le, ← Int32.toInt_inj, Int32.zero_add, Int32.add_zero] at *; simp at *; omega) | (simp at *; omega) | (simp_all; done)
theorem k_X12_isPlace_r1 (x : Int32) (y : Int32) (b4_1 : 0 ≤ x ∧ x ≤ 99) (b14_2 : ¬ (0 ≤ y ∧ y ≤ 99)) : (0 = (1 : Int32) ∧ ((0 ≤ x ∧ x ≤ 99) ∧ (0 ≤ y ∧ y ≤ 99))) ∨ (0 = (0 : Int32) ∧ ¬ ((0 ≤ x ∧ x ≤ 99) ∧ (0 ≤ y ∧ y ≤ 99))) := by
  first | rfl | (simp only [Int32.lt_iff_toInt_lt, Int32.le_iff_toInt_le, ← Int32.toInt_inj, Int32.zero_add, Int32.add_zero] at *; omega) | (simp only [Int32.lt_iff_toInt_lt, Int32.le_iff_toInt_le, ← Int32.toInt_inj, Int32.zero_add, Int32.add_zero] at *; done) | (simp only [Int32.lt_iff_toInt_lt, Int32.le_iff_toInt_le, ← Int32.toInt_inj, Int32.zero_add, Int32.add_zero] at *; simp at *; omega) | (simp at *; omega) | (simp_all; done)
theorem k_X12_isPlace_r2 (x : Int32) (y : Int32) (b4_1 : ¬ (0 ≤ x ∧ x ≤ 99)) : (0 = (1 : Int32) ∧ ((0 ≤ x ∧ x ≤ 99) ∧ (0 ≤ y ∧ y ≤ 99))) ∨ (0 = (0 : Int32) ∧ ¬ ((0 ≤ x ∧ x ≤ 99) ∧ (0 ≤ y ∧ y ≤ 99))) := by
  first | rfl | (simp only [Int32.lt_iff_toInt_lt, Int32.le_iff_toInt_le, ← Int32.toInt_inj, Int32.zero_add, Int32.add_zero] at *; omega) | (simp only [Int32.lt_iff_toInt_lt, Int32.le_iff_toInt_le, ← Int32.toInt_inj, Int32.zero_add, Int32.add_zero] at *; done) | (simp only [Int32.lt_iff_toInt_lt, Int32.le_iff_toInt_le, ← Int32.toInt_inj, Int32.zero_add, Int32.add_zero] at *; simp at *; omega) | (simp at *; omega) | (simp_all; done)
set_option maxHeartbeats 400000 in
set_option maxRecDepth 100000 in
theorem k_X12_isPlace (l : Launch) (E : qE) (A : Nat → Prop) (T : Nat) (u : qS) (x : Int32) (y : Int32) : Met l yX12_isPlace (uws yX12_isPlace cX12_isPlace 2 (some .boolean)) (qR 1 0 0) (qPc E A T u [.int x, .int y]) (qQi E A T (fun r u1 => u1 = u ∧ ((r = 1 ∧ ((0 ≤ x ∧ x ≤ 99) ∧ (0 ≤ y ∧ y ≤ 99))) ∨ (r = 0 ∧ ¬ ((0 ≤ x ∧ x ≤ 99) ∧ (0 ≤ y ∧ y ≤ 99)))))) 0 0 A := by
  refine q_met (own := RX12) (f := 1) [.int x, .int y] (by decide) (Nat.le_of_ble_eq_true rfl) rfl ?_
  intro p0 e0 s0 m0 bl0 me0 cd0 ls hF hr hlocks hU hS hA hl
  have hl : lv_has ls 2 [(0, .int x), (1, .int y)] := hl
  refine lv_iload_n hF.1 hF.2.1 dX12_isPlace_0 rfl (lv_at hl 0 rfl) ?_
  refine lv_iconst (v := 0) hF.1 hF.2.1 dX12_isPlace_1 (by decide) ?_
  refine lv_bipush (v := 99) hF.1 hF.2.1 dX12_isPlace_2 (by decide) ?_
  have hM9 := (k_X12_within l E A T u x 0 99)
  have hR9 := q_runS (l := l) (e := e0) (below := bl0) (meth := me0) (R := qR 1 0 0) (cells := 0) (slots := 0) (st0 := [.int 99, .int 0, .int x]) (rest := []) hF hU hS hA 3 hM9 w_1684 w_1685 w_107 w_1686 (by decide +kernel) ⟨Nat.le_of_ble_eq_true rfl, Nat.le_of_ble_eq_true rfl⟩ dX12_isPlace_4 rfl hl.1 rfl (Nat.le_of_ble_eq_true rfl) ⟨Nat.le_of_ble_eq_true rfl, Nat.le_of_ble_eq_true rfl⟩
  refine q_calli hR9 hU.2.2.2 hS (fun r u1 H locs hw hU hS => ?_)
  obtain ⟨hu1, hw⟩ := hw
  rw [hu1] at hU
  rcases hw with ⟨rfl, b4_1⟩ | ⟨rfl, b4_1⟩
  · refine lv_if_eq (tgt := 24) hF.1 hF.2.1 dX12_isPlace_7 (by decide) (fun h9 => absurd h9 (by decide)) (fun _ => ?_)
    refine lv_iload_n hF.1 hF.2.1 dX12_isPlace_10 rfl (lv_at hl 1 rfl) ?_
    refine lv_iconst (v := 0) hF.1 hF.2.1 dX12_isPlace_11 (by decide) ?_
    refine lv_bipush (v := 99) hF.1 hF.2.1 dX12_isPlace_12 (by decide) ?_
    have hM9 := (k_X12_within l E A T u y 0 99)
    have hR9 := q_runS (l := l) (e := e0) (below := bl0) (meth := me0) (R := qR 1 0 0) (cells := 0) (slots := 0) (st0 := [.int 99, .int 0, .int y]) (rest := []) hF hU hS hA 3 hM9 w_1684 w_1685 w_107 w_1686 (by decide +kernel) ⟨Nat.le_of_ble_eq_true rfl, Nat.le_of_ble_eq_true rfl⟩ dX12_isPlace_14 rfl hl.1 rfl (Nat.le_of_ble_eq_true rfl) ⟨Nat.le_of_ble_eq_true rfl, Nat.le_of_ble_eq_true rfl⟩
    refine q_calli hR9 hU.2.2.2 hS (fun r u1 H locs hw hU hS => ?_)
    obtain ⟨hu1, hw⟩ := hw
    rw [hu1] at hU
    rcases hw with ⟨rfl, b14_2⟩ | ⟨rfl, b14_2⟩
    · refine lv_if_eq (tgt := 24) hF.1 hF.2.1 dX12_isPlace_17 (by decide) (fun h9 => absurd h9 (by decide)) (fun _ => ?_)
      refine lv_iconst (v := 1) hF.1 hF.2.1 dX12_isPlace_20 (by decide) ?_
      refine lv_goto (tgt := 25) hF.1 hF.2.1 dX12_isPlace_21 (by decide) ?_
      exact q_iret hF hr (by decide) hlocks hU hS dX12_isPlace_25 (⟨rfl, k_X12_isPlace_r0 x y b4_1 b14_2⟩)
    · refine lv_if_eq (tgt := 24) hF.1 hF.2.1 dX12_isPlace_17 (by decide) (fun _ => ?_) (fun h9 => absurd (by decide) h9)
      refine lv_iconst (v := 0) hF.1 hF.2.1 dX12_isPlace_24 (by decide) ?_
      exact q_iret hF hr (by decide) hlocks hU hS dX12_isPlace_25 (⟨rfl, k_X12_isPlace_r1 x y b4_1 b14_2⟩)
  · refine lv_if_eq (tgt := 24) hF.1 hF.2.1 dX12_isPlace_7 (by decide) (fun _ => ?_) (fun h9 => absurd (by decide) h9)
    refine lv_iconst (v := 0) hF.1 hF.2.1 dX12_isPlace_24 (by decide) ?_
    exact q_iret hF hr (by decide) hlocks hU hS dX12_isPlace_25 (⟨rfl, k_X12_isPlace_r2 x y b4_1⟩)
theorem k_X12_isDay_r0 (x : Int32) (b5_1 : 0 ≤ x ∧ x ≤ 9999) : (1 = (1 : Int32) ∧ (0 ≤ x ∧ x ≤ 9999)) ∨ (1 = (0 : Int32) ∧ ¬ (0 ≤ x ∧ x ≤ 9999)) := by
  first | rfl | (simp only [Int32.lt_iff_toInt_lt, Int32.le_iff_toInt_le, ← Int32.toInt_inj, Int32.zero_add, Int32.add_zero] at *; omega) | (simp only [Int32.lt_iff_toInt_lt, Int32.le_iff_toInt_le, ← Int32.toInt_inj, Int32.zero_add, Int32.add_zero] at *; done) | (simp only [Int32.lt_iff_toInt_lt, Int32.le_iff_toInt_le, ← Int32.toInt_inj, Int32.zero_add, Int32.add_zero] at *; simp at *; omega) | (simp at *; omega) | (simp_all; done)
theorem k_X12_isDay_r1 (x : Int32) (b5_1 : ¬ (0 ≤ x ∧ x ≤ 9999)) : (0 = (1 : Int32) ∧ (0 ≤ x ∧ x ≤ 9999)) ∨ (0 = (0 : Int32) ∧ ¬ (0 ≤ x ∧ x ≤ 9999)) := by
  first | rfl | (simp only [Int32.lt_iff_toInt_lt, Int32.le_iff_toInt_le, ← Int32.toInt_inj, Int32.zero_add, Int32.add_zero] at *; omega) | (simp only [Int32.lt_iff_toInt_lt, Int32.le_iff_toInt_le, ← Int32.toInt_inj, Int32.zero_add, Int32.add_zero] at *; done) | (simp only [Int32.lt_iff_toInt_lt, Int32.le_iff_toInt_le, ← Int32.toInt_inj, Int32.zero_add, Int32.add_zero] at *; simp at *; omega) | (simp at *; omega) | (simp_all; done)
set_option maxHeartbeats 400000 in
set_option maxRecDepth 100000 in
theorem k_X12_isDay (l : Launch) (E : qE) (A : Nat → Prop) (T : Nat) (u : qS) (x : Int32) : Met l yX12_isDay (uws yX12_isDay cX12_isDay 1 (some .boolean)) (qR 1 0 0) (qPc E A T u [.int x]) (qQi E A T (fun r u1 => u1 = u ∧ ((r = 1 ∧ (0 ≤ x ∧ x ≤ 9999)) ∨ (r = 0 ∧ ¬ (0 ≤ x ∧ x ≤ 9999))))) 0 0 A := by
  refine q_met (own := RX12) (f := 1) [.int x] (by decide) (Nat.le_of_ble_eq_true rfl) rfl ?_
  intro p0 e0 s0 m0 bl0 me0 cd0 ls hF hr hlocks hU hS hA hl
  have hl : lv_has ls 1 [(0, .int x)] := hl
  refine lv_iload_n hF.1 hF.2.1 dX12_isDay_0 rfl (lv_at hl 0 rfl) ?_
  refine lv_iconst (v := 0) hF.1 hF.2.1 dX12_isDay_1 (by decide) ?_
  refine lv_sipush (v := 9999) hF.1 hF.2.1 dX12_isDay_2 (by decide) ?_
  have hM9 := (k_X12_within l E A T u x 0 9999)
  have hR9 := q_runS (l := l) (e := e0) (below := bl0) (meth := me0) (R := qR 1 0 0) (cells := 0) (slots := 0) (st0 := [.int 9999, .int 0, .int x]) (rest := []) hF hU hS hA 3 hM9 w_1684 w_1685 w_107 w_1686 (by decide +kernel) ⟨Nat.le_of_ble_eq_true rfl, Nat.le_of_ble_eq_true rfl⟩ dX12_isDay_5 rfl hl.1 rfl (Nat.le_of_ble_eq_true rfl) ⟨Nat.le_of_ble_eq_true rfl, Nat.le_of_ble_eq_true rfl⟩
  refine q_calli hR9 hU.2.2.2 hS (fun r u1 H locs hw hU hS => ?_)
  obtain ⟨hu1, hw⟩ := hw
  rw [hu1] at hU
  rcases hw with ⟨rfl, b5_1⟩ | ⟨rfl, b5_1⟩
  · exact q_iret hF hr (by decide) hlocks hU hS dX12_isDay_8 (⟨rfl, k_X12_isDay_r0 x b5_1⟩)
  · exact q_iret hF hr (by decide) hlocks hU hS dX12_isDay_8 (⟨rfl, k_X12_isDay_r1 x b5_1⟩)
theorem k_X12_areDays_r0 (x : Int32) (y : Int32) (b1_1 : 0 ≤ x ∧ x ≤ 9999) (b8_2 : 0 ≤ y ∧ y ≤ 9999) (c16_3 : y < (x : Int32)) : (0 = (1 : Int32) ∧ ((0 ≤ x ∧ x ≤ 9999) ∧ (0 ≤ y ∧ y ≤ 9999) ∧ x ≤ y)) ∨ (0 = (0 : Int32) ∧ ¬ ((0 ≤ x ∧ x ≤ 9999) ∧ (0 ≤ y ∧ y ≤ 9999) ∧ x ≤ y)) := by
  first | rfl | (simp only [Int32.lt_iff_toInt_lt, Int32.le_iff_toInt_le, ← Int32.toInt_inj, Int32.zero_add, Int32.add_zero] at *; omega) | (simp only [Int32.lt_iff_toInt_lt, Int32.le_iff_toInt_le, ← Int32.toInt_inj, Int32.zero_add, Int32.add_zero] at *; done) | (simp only [Int32.lt_iff_toInt_lt, Int32.le_iff_toInt_le, ← Int32.toInt_inj, Int32.zero_add, Int32.add_zero] at *; simp at *; omega) | (simp at *; omega) | (simp_all; done)
theorem k_X12_areDays_r1 (x : Int32) (y : Int32) (b1_1 : 0 ≤ x ∧ x ≤ 9999) (b8_2 : 0 ≤ y ∧ y ≤ 9999) (c16_3 : ¬ y < (x : Int32)) : (1 = (1 : Int32) ∧ ((0 ≤ x ∧ x ≤ 9999) ∧ (0 ≤ y ∧ y ≤ 9999) ∧ x ≤ y)) ∨ (1 = (0 : Int32) ∧ ¬ ((0 ≤ x ∧ x ≤ 9999) ∧ (0 ≤ y ∧ y ≤ 9999) ∧ x ≤ y)) := by
  first | rfl | (simp only [Int32.lt_iff_toInt_lt, Int32.le_iff_toInt_le, ← Int32.toInt_inj, Int32.zero_add, Int32.add_zero] at *; omega) | (simp only [Int32.lt_iff_toInt_lt, Int32.le_iff_toInt_le, ← Int32.toInt_inj, Int32.zero_add, Int32.add_zero] at *; done) | (simp only [Int32.lt_iff_toInt_lt, Int32.le_iff_toInt_le, ← Int32.toInt_inj, Int32.zero_add, Int32.add_zero] at *; simp at *; omega) | (simp at *; omega) | (simp_all; done)
theorem k_X12_areDays_r2 (x : Int32) (y : Int32) (b1_1 : 0 ≤ x ∧ x ≤ 9999) (b8_2 : ¬ (0 ≤ y ∧ y ≤ 9999)) : (0 = (1 : Int32) ∧ ((0 ≤ x ∧ x ≤ 9999) ∧ (0 ≤ y ∧ y ≤ 9999) ∧ x ≤ y)) ∨ (0 = (0 : Int32) ∧ ¬ ((0 ≤ x ∧ x ≤ 9999) ∧ (0 ≤ y ∧ y ≤ 9999) ∧ x ≤ y)) := by
  first | rfl | (simp only [Int32.lt_iff_toInt_lt, Int32.le_iff_toInt_le, ← Int32.toInt_inj, Int32.zero_add, Int32.add_zero] at *; omega) | (simp only [Int32.lt_iff_toInt_lt, Int32.le_iff_toInt_le, ← Int32.toInt_inj, Int32.zero_add, Int32.add_zero] at *; done) | (simp only [Int32.lt_iff_toInt_lt, Int32.le_iff_toInt_le, ← Int32.toInt_inj, Int32.zero_add, Int32.add_zero] at *; simp at *; omega) | (simp at *; omega) | (simp_all; done)
theorem k_X12_areDays_r3 (x : Int32) (y : Int32) (b1_1 : ¬ (0 ≤ x ∧ x ≤ 9999)) : (0 = (1 : Int32) ∧ ((0 ≤ x ∧ x ≤ 9999) ∧ (0 ≤ y ∧ y ≤ 9999) ∧ x ≤ y)) ∨ (0 = (0 : Int32) ∧ ¬ ((0 ≤ x ∧ x ≤ 9999) ∧ (0 ≤ y ∧ y ≤ 9999) ∧ x ≤ y)) := by
  first | rfl | (simp only [Int32.lt_iff_toInt_lt, Int32.le_iff_toInt_le, ← Int32.toInt_inj, Int32.zero_add, Int32.add_zero] at *; omega) | (simp only [Int32.lt_iff_toInt_lt, Int32.le_iff_toInt_le, ← Int32.toInt_inj, Int32.zero_add, Int32.add_zero] at *; done) | (simp only [Int32.lt_iff_toInt_lt, Int32.le_iff_toInt_le, ← Int32.toInt_inj, Int32.zero_add, Int32.add_zero] at *; simp at *; omega) | (simp at *; omega) | (simp_all; done)
set_option maxHeartbeats 400000 in
set_option maxRecDepth 100000 in
theorem k_X12_areDays (l : Launch) (E : qE) (A : Nat → Prop) (T : Nat) (u : qS) (x : Int32) (y : Int32) : Met l yX12_areDays (uws yX12_areDays cX12_areDays 2 (some .boolean)) (qR 2 0 0) (qPc E A T u [.int x, .int y]) (qQi E A T (fun r u1 => u1 = u ∧ ((r = 1 ∧ ((0 ≤ x ∧ x ≤ 9999) ∧ (0 ≤ y ∧ y ≤ 9999) ∧ x ≤ y)) ∨ (r = 0 ∧ ¬ ((0 ≤ x ∧ x ≤ 9999) ∧ (0 ≤ y ∧ y ≤ 9999) ∧ x ≤ y))))) 0 0 A := by
  refine q_met (own := RX12) (f := 2) [.int x, .int y] (by decide) (Nat.le_of_ble_eq_true rfl) rfl ?_
  intro p0 e0 s0 m0 bl0 me0 cd0 ls hF hr hlocks hU hS hA hl
  have hl : lv_has ls 2 [(0, .int x), (1, .int y)] := hl
  refine lv_iload_n hF.1 hF.2.1 dX12_areDays_0 rfl (lv_at hl 0 rfl) ?_
  have hM9 := (k_X12_isDay l E A T u x)
  have hR9 := q_runS (l := l) (e := e0) (below := bl0) (meth := me0) (R := qR 2 0 0) (cells := 0) (slots := 0) (st0 := [.int x]) (rest := []) hF hU hS hA 1 hM9 w_1810 w_1811 w_107 w_1812 (by decide +kernel) ⟨Nat.le_of_ble_eq_true rfl, Nat.le_of_ble_eq_true rfl⟩ dX12_areDays_1 rfl hl.1 rfl (Nat.le_of_ble_eq_true rfl) ⟨Nat.le_of_ble_eq_true rfl, Nat.le_of_ble_eq_true rfl⟩
  refine q_calli hR9 hU.2.2.2 hS (fun r u1 H locs hw hU hS => ?_)
  obtain ⟨hu1, hw⟩ := hw
  rw [hu1] at hU
  rcases hw with ⟨rfl, b1_1⟩ | ⟨rfl, b1_1⟩
  · refine lv_if_eq (tgt := 23) hF.1 hF.2.1 dX12_areDays_4 (by decide) (fun h9 => absurd h9 (by decide)) (fun _ => ?_)
    refine lv_iload_n hF.1 hF.2.1 dX12_areDays_7 rfl (lv_at hl 1 rfl) ?_
    have hM9 := (k_X12_isDay l E A T u y)
    have hR9 := q_runS (l := l) (e := e0) (below := bl0) (meth := me0) (R := qR 2 0 0) (cells := 0) (slots := 0) (st0 := [.int y]) (rest := []) hF hU hS hA 1 hM9 w_1810 w_1811 w_107 w_1812 (by decide +kernel) ⟨Nat.le_of_ble_eq_true rfl, Nat.le_of_ble_eq_true rfl⟩ dX12_areDays_8 rfl hl.1 rfl (Nat.le_of_ble_eq_true rfl) ⟨Nat.le_of_ble_eq_true rfl, Nat.le_of_ble_eq_true rfl⟩
    refine q_calli hR9 hU.2.2.2 hS (fun r u1 H locs hw hU hS => ?_)
    obtain ⟨hu1, hw⟩ := hw
    rw [hu1] at hU
    rcases hw with ⟨rfl, b8_2⟩ | ⟨rfl, b8_2⟩
    · refine lv_if_eq (tgt := 23) hF.1 hF.2.1 dX12_areDays_11 (by decide) (fun h9 => absurd h9 (by decide)) (fun _ => ?_)
      refine lv_iload_n hF.1 hF.2.1 dX12_areDays_14 rfl (lv_at hl 0 rfl) ?_
      refine lv_iload_n hF.1 hF.2.1 dX12_areDays_15 rfl (lv_at hl 1 rfl) ?_
      refine lv_icmp_gt (tgt := 23) hF.1 hF.2.1 dX12_areDays_16 (by decide) (fun c16_3 => ?_) (fun c16_3 => ?_)
      · refine lv_iconst (v := 0) hF.1 hF.2.1 dX12_areDays_23 (by decide) ?_
        exact q_iret hF hr (by decide) hlocks hU hS dX12_areDays_24 (⟨rfl, k_X12_areDays_r0 x y b1_1 b8_2 c16_3⟩)
      · refine lv_iconst (v := 1) hF.1 hF.2.1 dX12_areDays_19 (by decide) ?_
        refine lv_goto (tgt := 24) hF.1 hF.2.1 dX12_areDays_20 (by decide) ?_
        exact q_iret hF hr (by decide) hlocks hU hS dX12_areDays_24 (⟨rfl, k_X12_areDays_r1 x y b1_1 b8_2 c16_3⟩)
    · refine lv_if_eq (tgt := 23) hF.1 hF.2.1 dX12_areDays_11 (by decide) (fun _ => ?_) (fun h9 => absurd (by decide) h9)
      refine lv_iconst (v := 0) hF.1 hF.2.1 dX12_areDays_23 (by decide) ?_
      exact q_iret hF hr (by decide) hlocks hU hS dX12_areDays_24 (⟨rfl, k_X12_areDays_r2 x y b1_1 b8_2⟩)
  · refine lv_if_eq (tgt := 23) hF.1 hF.2.1 dX12_areDays_4 (by decide) (fun _ => ?_) (fun h9 => absurd (by decide) h9)
    refine lv_iconst (v := 0) hF.1 hF.2.1 dX12_areDays_23 (by decide) ?_
    exact q_iret hF hr (by decide) hlocks hU hS dX12_areDays_24 (⟨rfl, k_X12_areDays_r3 x y b1_1⟩)
theorem k_X12_isShop_r0 (x : Int32) (c1_1 : (x : Int32) < 0) : (0 : Int32) = 0 := by
  first | rfl | (simp only [Int32.lt_iff_toInt_lt, Int32.le_iff_toInt_le, ← Int32.toInt_inj, Int32.zero_add, Int32.add_zero] at *; omega) | (simp only [Int32.lt_iff_toInt_lt, Int32.le_iff_toInt_le, ← Int32.toInt_inj, Int32.zero_add, Int32.add_zero] at *; done) | (simp only [Int32.lt_iff_toInt_lt, Int32.le_iff_toInt_le, ← Int32.toInt_inj, Int32.zero_add, Int32.add_zero] at *; simp at *; omega) | (simp at *; omega) | (simp_all; done)
theorem k_X12_isShop_r1 (x : Int32) (c1_1 : ¬ (x : Int32) < 0) : (0 : Int32) = 0 := by
  first | rfl | (simp only [Int32.lt_iff_toInt_lt, Int32.le_iff_toInt_le, ← Int32.toInt_inj, Int32.zero_add, Int32.add_zero] at *; omega) | (simp only [Int32.lt_iff_toInt_lt, Int32.le_iff_toInt_le, ← Int32.toInt_inj, Int32.zero_add, Int32.add_zero] at *; done) | (simp only [Int32.lt_iff_toInt_lt, Int32.le_iff_toInt_le, ← Int32.toInt_inj, Int32.zero_add, Int32.add_zero] at *; simp at *; omega) | (simp at *; omega) | (simp_all; done)
set_option maxHeartbeats 400000 in
set_option maxRecDepth 100000 in
theorem k_X12_isShop (l : Launch) (E : qE) (A : Nat → Prop) (u : qS) (x : Int32) (h_shops : u.1 1232 = 0) : Met l yX12_isShop (uws yX12_isShop cX12_isShop 2 (some .boolean)) (qR 0 0 0) (qPc E A 1 u [.ref (E.2.2 1299), .int x]) (qQi E A 1 (fun r u1 => u1 = u ∧ r = 0)) 0 0 A := by
  refine q_met (own := RX12) (f := 0) [.ref (E.2.2 1299), .int x] (by decide) (Nat.le_of_ble_eq_true rfl) rfl ?_
  intro p0 e0 s0 m0 bl0 me0 cd0 ls hF hr hlocks hU hS hA hl
  have hl : lv_has ls 2 [(0, .ref (E.2.2 1299)), (1, .int x)] := hl
  refine lv_iload_n hF.1 hF.2.1 dX12_isShop_0 rfl (lv_at hl 1 rfl) ?_
  refine lv_if_lt (tgt := 16) hF.1 hF.2.1 dX12_isShop_1 (by decide) (fun c1_1 => ?_) (fun c1_1 => ?_)
  · refine lv_iconst (v := 0) hF.1 hF.2.1 dX12_isShop_16 (by decide) ?_
    exact q_iret hF hr (by decide) hlocks hU hS dX12_isShop_17 (⟨rfl, k_X12_isShop_r0 x c1_1⟩)
  · refine lv_iload_n hF.1 hF.2.1 dX12_isShop_4 rfl (lv_at hl 1 rfl) ?_
    refine lv_aload_n hF.1 hF.2.1 dX12_isShop_5 rfl (lv_at hl 0 rfl) ?_
    refine q_get (v := .int 0) hF hU dX12_isShop_6 0 12 32 1232 1299 rfl rfl rfl rfl inX12 (by decide) (by decide) w_1365 rfl (congrArg Value.int h_shops) ?_
    refine lv_icmp_ge (tgt := 16) hF.1 hF.2.1 dX12_isShop_9 (by decide) (fun _ => ?_) (fun h9 => absurd (by first | exact c1_1 | exact Int32.not_lt.mp c1_1 | exact Int32.not_le.mp c1_1 | exact Int32.not_lt.mpr c1_1 | exact Int32.not_le.mpr c1_1) h9)
    refine lv_iconst (v := 0) hF.1 hF.2.1 dX12_isShop_16 (by decide) ?_
    exact q_iret hF hr (by decide) hlocks hU hS dX12_isShop_17 (⟨rfl, k_X12_isShop_r1 x c1_1⟩)
theorem k_X12_isBuyer_r0 (x : Int32) (c1_1 : (x : Int32) < 0) : (0 : Int32) = 0 := by
  first | rfl | (simp only [Int32.lt_iff_toInt_lt, Int32.le_iff_toInt_le, ← Int32.toInt_inj, Int32.zero_add, Int32.add_zero] at *; omega) | (simp only [Int32.lt_iff_toInt_lt, Int32.le_iff_toInt_le, ← Int32.toInt_inj, Int32.zero_add, Int32.add_zero] at *; done) | (simp only [Int32.lt_iff_toInt_lt, Int32.le_iff_toInt_le, ← Int32.toInt_inj, Int32.zero_add, Int32.add_zero] at *; simp at *; omega) | (simp at *; omega) | (simp_all; done)
theorem k_X12_isBuyer_r1 (x : Int32) (c1_1 : ¬ (x : Int32) < 0) : (0 : Int32) = 0 := by
  first | rfl | (simp only [Int32.lt_iff_toInt_lt, Int32.le_iff_toInt_le, ← Int32.toInt_inj, Int32.zero_add, Int32.add_zero] at *; omega) | (simp only [Int32.lt_iff_toInt_lt, Int32.le_iff_toInt_le, ← Int32.toInt_inj, Int32.zero_add, Int32.add_zero] at *; done) | (simp only [Int32.lt_iff_toInt_lt, Int32.le_iff_toInt_le, ← Int32.toInt_inj, Int32.zero_add, Int32.add_zero] at *; simp at *; omega) | (simp at *; omega) | (simp_all; done)
set_option maxHeartbeats 400000 in
set_option maxRecDepth 100000 in
theorem k_X12_isBuyer (l : Launch) (E : qE) (A : Nat → Prop) (u : qS) (x : Int32) (h_buyers : u.1 1239 = 0) : Met l yX12_isBuyer (uws yX12_isBuyer cX12_isBuyer 2 (some .boolean)) (qR 0 0 0) (qPc E A 1 u [.ref (E.2.2 1299), .int x]) (qQi E A 1 (fun r u1 => u1 = u ∧ r = 0)) 0 0 A := by
  refine q_met (own := RX12) (f := 0) [.ref (E.2.2 1299), .int x] (by decide) (Nat.le_of_ble_eq_true rfl) rfl ?_
  intro p0 e0 s0 m0 bl0 me0 cd0 ls hF hr hlocks hU hS hA hl
  have hl : lv_has ls 2 [(0, .ref (E.2.2 1299)), (1, .int x)] := hl
  refine lv_iload_n hF.1 hF.2.1 dX12_isBuyer_0 rfl (lv_at hl 1 rfl) ?_
  refine lv_if_lt (tgt := 16) hF.1 hF.2.1 dX12_isBuyer_1 (by decide) (fun c1_1 => ?_) (fun c1_1 => ?_)
  · refine lv_iconst (v := 0) hF.1 hF.2.1 dX12_isBuyer_16 (by decide) ?_
    exact q_iret hF hr (by decide) hlocks hU hS dX12_isBuyer_17 (⟨rfl, k_X12_isBuyer_r0 x c1_1⟩)
  · refine lv_iload_n hF.1 hF.2.1 dX12_isBuyer_4 rfl (lv_at hl 1 rfl) ?_
    refine lv_aload_n hF.1 hF.2.1 dX12_isBuyer_5 rfl (lv_at hl 0 rfl) ?_
    refine q_get (v := .int 0) hF hU dX12_isBuyer_6 0 12 39 1239 1299 rfl rfl rfl rfl inX12 (by decide) (by decide) w_1372 rfl (congrArg Value.int h_buyers) ?_
    refine lv_icmp_ge (tgt := 16) hF.1 hF.2.1 dX12_isBuyer_9 (by decide) (fun _ => ?_) (fun h9 => absurd (by first | exact c1_1 | exact Int32.not_lt.mp c1_1 | exact Int32.not_le.mp c1_1 | exact Int32.not_lt.mpr c1_1 | exact Int32.not_le.mpr c1_1) h9)
    refine lv_iconst (v := 0) hF.1 hF.2.1 dX12_isBuyer_16 (by decide) ?_
    exact q_iret hF hr (by decide) hlocks hU hS dX12_isBuyer_17 (⟨rfl, k_X12_isBuyer_r1 x c1_1⟩)
theorem k_X12_viewDay_r0  : (0 : Int32) = 0 := by
  first | rfl | (simp only [Int32.lt_iff_toInt_lt, Int32.le_iff_toInt_le, ← Int32.toInt_inj, Int32.zero_add, Int32.add_zero] at *; omega) | (simp only [Int32.lt_iff_toInt_lt, Int32.le_iff_toInt_le, ← Int32.toInt_inj, Int32.zero_add, Int32.add_zero] at *; done) | (simp only [Int32.lt_iff_toInt_lt, Int32.le_iff_toInt_le, ← Int32.toInt_inj, Int32.zero_add, Int32.add_zero] at *; simp at *; omega) | (simp at *; omega) | (simp_all; done)
set_option maxHeartbeats 400000 in
set_option maxRecDepth 100000 in
theorem k_X12_viewDay (l : Launch) (E : qE) (A : Nat → Prop) (u : qS) (h_viewed : u.1 1231 = (-1)) (h_now : u.1 1230 = 0) : Met l yX12_viewDay (uws yX12_viewDay cX12_viewDay 1 (some .int)) (qR 0 0 0) (qPc E A 1 u [.ref (E.2.2 1299)]) (qQi E A 1 (fun r u1 => u1 = u ∧ r = 0)) 0 0 A := by
  refine q_met (own := RX12) (f := 0) [.ref (E.2.2 1299)] (by decide) (Nat.le_of_ble_eq_true rfl) rfl ?_
  intro p0 e0 s0 m0 bl0 me0 cd0 ls hF hr hlocks hU hS hA hl
  have hl : lv_has ls 1 [(0, .ref (E.2.2 1299))] := hl
  refine lv_aload_n hF.1 hF.2.1 dX12_viewDay_0 rfl (lv_at hl 0 rfl) ?_
  refine q_get (v := .int (-1)) hF hU dX12_viewDay_1 0 12 31 1231 1299 rfl rfl rfl rfl inX12 (by decide) (by decide) w_1364 rfl (congrArg Value.int h_viewed) ?_
  refine lv_if_ge (tgt := 14) hF.1 hF.2.1 dX12_viewDay_4 (by decide) (fun h9 => absurd h9 (by decide)) (fun _ => ?_)
  refine lv_aload_n hF.1 hF.2.1 dX12_viewDay_7 rfl (lv_at hl 0 rfl) ?_
  refine q_get (v := .int 0) hF hU dX12_viewDay_8 0 12 30 1230 1299 rfl rfl rfl rfl inX12 (by decide) (by decide) w_1363 rfl (congrArg Value.int h_now) ?_
  refine lv_goto (tgt := 18) hF.1 hF.2.1 dX12_viewDay_11 (by decide) ?_
  exact q_iret hF hr rfl hlocks hU hS dX12_viewDay_18 (⟨rfl, k_X12_viewDay_r0⟩)
theorem k_X12_isSeen_r0 (x : Int32) (c1_1 : (x : Int32) < 0) : (0 : Int32) = 0 := by
  first | rfl | (simp only [Int32.lt_iff_toInt_lt, Int32.le_iff_toInt_le, ← Int32.toInt_inj, Int32.zero_add, Int32.add_zero] at *; omega) | (simp only [Int32.lt_iff_toInt_lt, Int32.le_iff_toInt_le, ← Int32.toInt_inj, Int32.zero_add, Int32.add_zero] at *; done) | (simp only [Int32.lt_iff_toInt_lt, Int32.le_iff_toInt_le, ← Int32.toInt_inj, Int32.zero_add, Int32.add_zero] at *; simp at *; omega) | (simp at *; omega) | (simp_all; done)
theorem k_X12_isSeen_r1 (x : Int32) (c1_1 : ¬ (x : Int32) < 0) : (0 : Int32) = 0 := by
  first | rfl | (simp only [Int32.lt_iff_toInt_lt, Int32.le_iff_toInt_le, ← Int32.toInt_inj, Int32.zero_add, Int32.add_zero] at *; omega) | (simp only [Int32.lt_iff_toInt_lt, Int32.le_iff_toInt_le, ← Int32.toInt_inj, Int32.zero_add, Int32.add_zero] at *; done) | (simp only [Int32.lt_iff_toInt_lt, Int32.le_iff_toInt_le, ← Int32.toInt_inj, Int32.zero_add, Int32.add_zero] at *; simp at *; omega) | (simp at *; omega) | (simp_all; done)
set_option maxHeartbeats 400000 in
set_option maxRecDepth 100000 in
theorem k_X12_isSeen (l : Launch) (E : qE) (A : Nat → Prop) (u : qS) (x : Int32) (h_visits : u.1 1247 = 0) : Met l yX12_isSeen (uws yX12_isSeen cX12_isSeen 2 (some .boolean)) (qR 1 0 0) (qPc E A 1 u [.ref (E.2.2 1299), .int x]) (qQi E A 1 (fun r u1 => u1 = u ∧ r = 0)) 0 0 A := by
  refine q_met (own := RX12) (f := 1) [.ref (E.2.2 1299), .int x] (by decide) (Nat.le_of_ble_eq_true rfl) rfl ?_
  intro p0 e0 s0 m0 bl0 me0 cd0 ls hF hr hlocks hU hS hA hl
  have hl : lv_has ls 2 [(0, .ref (E.2.2 1299)), (1, .int x)] := hl
  refine lv_iload_n hF.1 hF.2.1 dX12_isSeen_0 rfl (lv_at hl 1 rfl) ?_
  refine lv_if_lt (tgt := 29) hF.1 hF.2.1 dX12_isSeen_1 (by decide) (fun c1_1 => ?_) (fun c1_1 => ?_)
  · refine lv_iconst (v := 0) hF.1 hF.2.1 dX12_isSeen_29 (by decide) ?_
    exact q_iret hF hr (by decide) hlocks hU hS dX12_isSeen_30 (⟨rfl, k_X12_isSeen_r0 x c1_1⟩)
  · refine lv_iload_n hF.1 hF.2.1 dX12_isSeen_4 rfl (lv_at hl 1 rfl) ?_
    refine lv_aload_n hF.1 hF.2.1 dX12_isSeen_5 rfl (lv_at hl 0 rfl) ?_
    refine q_get (v := .int 0) hF hU dX12_isSeen_6 0 12 47 1247 1299 rfl rfl rfl rfl inX12 (by decide) (by decide) w_1380 rfl (congrArg Value.int h_visits) ?_
    refine lv_icmp_ge (tgt := 29) hF.1 hF.2.1 dX12_isSeen_9 (by decide) (fun _ => ?_) (fun h9 => absurd (by first | exact c1_1 | exact Int32.not_lt.mp c1_1 | exact Int32.not_le.mp c1_1 | exact Int32.not_lt.mpr c1_1 | exact Int32.not_le.mpr c1_1) h9)
    refine lv_iconst (v := 0) hF.1 hF.2.1 dX12_isSeen_29 (by decide) ?_
    exact q_iret hF hr (by decide) hlocks hU hS dX12_isSeen_30 (⟨rfl, k_X12_isSeen_r1 x c1_1⟩)
theorem k_X12_days_r0 (x : Int32) (b10_1 : 0 ≤ x ∧ x ≤ 1000) (c25_2 : (0 + x : Int32) ≤ 9999) : ((0 ≤ x ∧ x ≤ 1000) ∧ (0 + x : Int32) = x) ∨ (¬ (0 ≤ x ∧ x ≤ 1000) ∧ (0 + x : Int32) = (-1)) := by
  first | rfl | (simp only [Int32.lt_iff_toInt_lt, Int32.le_iff_toInt_le, ← Int32.toInt_inj, Int32.zero_add, Int32.add_zero] at *; omega) | (simp only [Int32.lt_iff_toInt_lt, Int32.le_iff_toInt_le, ← Int32.toInt_inj, Int32.zero_add, Int32.add_zero] at *; done) | (simp only [Int32.lt_iff_toInt_lt, Int32.le_iff_toInt_le, ← Int32.toInt_inj, Int32.zero_add, Int32.add_zero] at *; simp at *; omega) | (simp at *; omega) | (simp_all; done)
theorem k_X12_days_r1 (x : Int32) (b10_1 : 0 ≤ x ∧ x ≤ 1000) (c25_2 : ¬ (0 + x : Int32) ≤ 9999) : ((0 ≤ x ∧ x ≤ 1000) ∧ ((-1) : Int32) = x) ∨ (¬ (0 ≤ x ∧ x ≤ 1000) ∧ ((-1) : Int32) = (-1)) := by
  first | rfl | (simp only [Int32.lt_iff_toInt_lt, Int32.le_iff_toInt_le, ← Int32.toInt_inj, Int32.zero_add, Int32.add_zero] at *; omega) | (simp only [Int32.lt_iff_toInt_lt, Int32.le_iff_toInt_le, ← Int32.toInt_inj, Int32.zero_add, Int32.add_zero] at *; done) | (simp only [Int32.lt_iff_toInt_lt, Int32.le_iff_toInt_le, ← Int32.toInt_inj, Int32.zero_add, Int32.add_zero] at *; simp at *; omega) | (simp at *; omega) | (simp_all; done)
theorem k_X12_days_r2 (x : Int32) (b10_1 : ¬ (0 ≤ x ∧ x ≤ 1000)) : ((0 ≤ x ∧ x ≤ 1000) ∧ ((-1) : Int32) = x) ∨ (¬ (0 ≤ x ∧ x ≤ 1000) ∧ ((-1) : Int32) = (-1)) := by
  first | rfl | (simp only [Int32.lt_iff_toInt_lt, Int32.le_iff_toInt_le, ← Int32.toInt_inj, Int32.zero_add, Int32.add_zero] at *; omega) | (simp only [Int32.lt_iff_toInt_lt, Int32.le_iff_toInt_le, ← Int32.toInt_inj, Int32.zero_add, Int32.add_zero] at *; done) | (simp only [Int32.lt_iff_toInt_lt, Int32.le_iff_toInt_le, ← Int32.toInt_inj, Int32.zero_add, Int32.add_zero] at *; simp at *; omega) | (simp at *; omega) | (simp_all; done)
set_option maxHeartbeats 400000 in
set_option maxRecDepth 100000 in
theorem k_X12_days (l : Launch) (E : qE) (A : Nat → Prop) (u : qS) (x : Int32) (h_now : u.1 1230 = 0) : Met l yX12_days (uws yX12_days cX12_days 2 (some .int)) (qR 2 0 0) (qPc E A 1 u [.ref (E.2.2 1299), .int x]) (qQi E A 1 (fun r _ => ((0 ≤ x ∧ x ≤ 1000) ∧ r = x) ∨ (¬ (0 ≤ x ∧ x ≤ 1000) ∧ r = (-1)))) 0 0 A := by
  refine q_met (own := RX12) (f := 2) [.ref (E.2.2 1299), .int x] (by decide) (Nat.le_of_ble_eq_true rfl) rfl ?_
  intro p0 e0 s0 m0 bl0 me0 cd0 ls hF hr hlocks hU hS hA hl
  have hl : lv_has ls 2 [(0, .ref (E.2.2 1299)), (1, .int x)] := hl
  refine lv_aload_n hF.1 hF.2.1 dX12_days_0 rfl (lv_at hl 0 rfl) ?_
  refine lv_iconst (v := 0) hF.1 hF.2.1 dX12_days_1 (by decide) ?_
  refine q_put hF hU hS dX12_days_2 0 12 0 1200 1299 rfl rfl rfl rfl inX12 tyX12 tyX12_ok nmX12 (by decide) (by decide) rfl w_1333 rfl rfl rfl rfl (fun H locs hU hS => ?_)
  refine lv_iload_n hF.1 hF.2.1 dX12_days_5 rfl (lv_at hl 1 rfl) ?_
  refine lv_iconst (v := 0) hF.1 hF.2.1 dX12_days_6 (by decide) ?_
  refine lv_sipush (v := 1000) hF.1 hF.2.1 dX12_days_7 (by decide) ?_
  have hM9 := (k_X12_within l E A 1 (qsI u 1200 0) x 0 1000)
  have hR9 := q_runS (l := l) (e := e0) (below := bl0) (meth := me0) (R := qR 2 0 0) (cells := 0) (slots := 0) (st0 := [.int 1000, .int 0, .int x]) (rest := []) hF hU hS hA 3 hM9 w_1684 w_1685 w_107 w_1686 (by decide +kernel) ⟨Nat.le_of_ble_eq_true rfl, Nat.le_of_ble_eq_true rfl⟩ dX12_days_10 rfl hl.1 rfl (Nat.le_of_ble_eq_true rfl) ⟨Nat.le_of_ble_eq_true rfl, Nat.le_of_ble_eq_true rfl⟩
  refine q_calli hR9 hU.2.2.2 hS (fun r u1 H locs hw hU hS => ?_)
  obtain ⟨hu1, hw⟩ := hw
  rw [hu1] at hU
  rcases hw with ⟨rfl, b10_1⟩ | ⟨rfl, b10_1⟩
  · refine lv_if_eq (tgt := 28) hF.1 hF.2.1 dX12_days_13 (by decide) (fun h9 => absurd h9 (by decide)) (fun _ => ?_)
    refine lv_aload_n hF.1 hF.2.1 dX12_days_16 rfl (lv_at hl 0 rfl) ?_
    refine q_get (v := .int 0) hF hU dX12_days_17 0 12 30 1230 1299 rfl rfl rfl rfl inX12 (by decide) (by decide) w_1363 rfl (congrArg Value.int h_now) ?_
    refine lv_iload_n hF.1 hF.2.1 dX12_days_20 rfl (lv_at hl 1 rfl) ?_
    refine lv_iadd hF.1 hF.2.1 dX12_days_21 ?_
    refine lv_sipush (v := 9999) hF.1 hF.2.1 dX12_days_22 (by decide) ?_
    refine lv_icmp_le (tgt := 30) hF.1 hF.2.1 dX12_days_25 (by decide) (fun c25_2 => ?_) (fun c25_2 => ?_)
    · refine lv_aload_n hF.1 hF.2.1 dX12_days_30 rfl (lv_at hl 0 rfl) ?_
      refine lv_dup hF.1 hF.2.1 dX12_days_31 rfl ?_
      refine q_get (v := .int 0) hF hU dX12_days_32 0 12 30 1230 1299 rfl rfl rfl rfl inX12 (by decide) (by decide) w_1363 rfl (congrArg Value.int h_now) ?_
      refine lv_iload_n hF.1 hF.2.1 dX12_days_35 rfl (lv_at hl 1 rfl) ?_
      refine lv_iadd hF.1 hF.2.1 dX12_days_36 ?_
      refine q_put hF hU hS dX12_days_37 0 12 30 1230 1299 rfl rfl rfl rfl inX12 tyX12 tyX12_ok nmX12 (by decide) (by decide) rfl w_1363 rfl rfl rfl rfl (fun H locs hU hS => ?_)
      refine lv_aload_n hF.1 hF.2.1 dX12_days_40 rfl (lv_at hl 0 rfl) ?_
      refine q_get (v := .int (0 + x)) hF hU dX12_days_41 0 12 30 1230 1299 rfl rfl rfl rfl inX12 (by decide) (by decide) w_1363 rfl rfl ?_
      exact q_iret hF hr rfl hlocks hU hS dX12_days_44 (k_X12_days_r0 x b10_1 c25_2)
    · refine lv_iconst (v := (-1)) hF.1 hF.2.1 dX12_days_28 (by decide) ?_
      exact q_iret hF hr rfl hlocks hU hS dX12_days_29 (k_X12_days_r1 x b10_1 c25_2)
  · refine lv_if_eq (tgt := 28) hF.1 hF.2.1 dX12_days_13 (by decide) (fun _ => ?_) (fun h9 => absurd (by decide) h9)
    refine lv_iconst (v := (-1)) hF.1 hF.2.1 dX12_days_28 (by decide) ?_
    exact q_iret hF hr rfl hlocks hU hS dX12_days_29 (k_X12_days_r2 x b10_1)
theorem k_X12_view_r0 (x : Int32) (b11_1 : 0 ≤ x ∧ x ≤ 0) (c25_2 : ¬ (x : Int32) = 0) : ((0 ≤ x ∧ x ≤ 0) ∧ (1 : Int32) = 1) ∨ (¬ (0 ≤ x ∧ x ≤ 0) ∧ (1 : Int32) = 0) := by
  first | rfl | (simp only [Int32.lt_iff_toInt_lt, Int32.le_iff_toInt_le, ← Int32.toInt_inj, Int32.zero_add, Int32.add_zero] at *; omega) | (simp only [Int32.lt_iff_toInt_lt, Int32.le_iff_toInt_le, ← Int32.toInt_inj, Int32.zero_add, Int32.add_zero] at *; done) | (simp only [Int32.lt_iff_toInt_lt, Int32.le_iff_toInt_le, ← Int32.toInt_inj, Int32.zero_add, Int32.add_zero] at *; simp at *; omega) | (simp at *; omega) | (simp_all; done)
theorem k_X12_view_r1 (x : Int32) (b11_1 : 0 ≤ x ∧ x ≤ 0) (c25_2 : (x : Int32) = 0) : ((0 ≤ x ∧ x ≤ 0) ∧ (1 : Int32) = 1) ∨ (¬ (0 ≤ x ∧ x ≤ 0) ∧ (1 : Int32) = 0) := by
  first | rfl | (simp only [Int32.lt_iff_toInt_lt, Int32.le_iff_toInt_le, ← Int32.toInt_inj, Int32.zero_add, Int32.add_zero] at *; omega) | (simp only [Int32.lt_iff_toInt_lt, Int32.le_iff_toInt_le, ← Int32.toInt_inj, Int32.zero_add, Int32.add_zero] at *; done) | (simp only [Int32.lt_iff_toInt_lt, Int32.le_iff_toInt_le, ← Int32.toInt_inj, Int32.zero_add, Int32.add_zero] at *; simp at *; omega) | (simp at *; omega) | (simp_all; done)
theorem k_X12_view_r2 (x : Int32) (b11_1 : ¬ (0 ≤ x ∧ x ≤ 0)) : ((0 ≤ x ∧ x ≤ 0) ∧ (0 : Int32) = 1) ∨ (¬ (0 ≤ x ∧ x ≤ 0) ∧ (0 : Int32) = 0) := by
  first | rfl | (simp only [Int32.lt_iff_toInt_lt, Int32.le_iff_toInt_le, ← Int32.toInt_inj, Int32.zero_add, Int32.add_zero] at *; omega) | (simp only [Int32.lt_iff_toInt_lt, Int32.le_iff_toInt_le, ← Int32.toInt_inj, Int32.zero_add, Int32.add_zero] at *; done) | (simp only [Int32.lt_iff_toInt_lt, Int32.le_iff_toInt_le, ← Int32.toInt_inj, Int32.zero_add, Int32.add_zero] at *; simp at *; omega) | (simp at *; omega) | (simp_all; done)
set_option maxHeartbeats 400000 in
set_option maxRecDepth 100000 in
theorem k_X12_view (l : Launch) (E : qE) (A : Nat → Prop) (u : qS) (x : Int32) (h_now : u.1 1230 = 0) : Met l yX12_view (uws yX12_view cX12_view 2 (some .boolean)) (qR 2 0 0) (qPc E A 1 u [.ref (E.2.2 1299), .int x]) (qQi E A 1 (fun r _ => ((0 ≤ x ∧ x ≤ 0) ∧ r = 1) ∨ (¬ (0 ≤ x ∧ x ≤ 0) ∧ r = 0))) 0 0 A := by
  refine q_met (own := RX12) (f := 2) [.ref (E.2.2 1299), .int x] (by decide) (Nat.le_of_ble_eq_true rfl) rfl ?_
  intro p0 e0 s0 m0 bl0 me0 cd0 ls hF hr hlocks hU hS hA hl
  have hl : lv_has ls 2 [(0, .ref (E.2.2 1299)), (1, .int x)] := hl
  refine lv_aload_n hF.1 hF.2.1 dX12_view_0 rfl (lv_at hl 0 rfl) ?_
  refine lv_iconst (v := 0) hF.1 hF.2.1 dX12_view_1 (by decide) ?_
  refine q_put hF hU hS dX12_view_2 0 12 0 1200 1299 rfl rfl rfl rfl inX12 tyX12 tyX12_ok nmX12 (by decide) (by decide) rfl w_1333 rfl rfl rfl rfl (fun H locs hU hS => ?_)
  refine lv_iload_n hF.1 hF.2.1 dX12_view_5 rfl (lv_at hl 1 rfl) ?_
  refine lv_iconst (v := 0) hF.1 hF.2.1 dX12_view_6 (by decide) ?_
  refine lv_aload_n hF.1 hF.2.1 dX12_view_7 rfl (lv_at hl 0 rfl) ?_
  refine q_get (v := .int 0) hF hU dX12_view_8 0 12 30 1230 1299 rfl rfl rfl rfl inX12 (by decide) (by decide) w_1363 rfl (congrArg Value.int h_now) ?_
  have hM9 := (k_X12_within l E A 1 (qsI u 1200 0) x 0 0)
  have hR9 := q_runS (l := l) (e := e0) (below := bl0) (meth := me0) (R := qR 2 0 0) (cells := 0) (slots := 0) (st0 := [.int 0, .int 0, .int x]) (rest := []) hF hU hS hA 3 hM9 w_1684 w_1685 w_107 w_1686 (by decide +kernel) ⟨Nat.le_of_ble_eq_true rfl, Nat.le_of_ble_eq_true rfl⟩ dX12_view_11 rfl hl.1 rfl (Nat.le_of_ble_eq_true rfl) ⟨Nat.le_of_ble_eq_true rfl, Nat.le_of_ble_eq_true rfl⟩
  refine q_calli hR9 hU.2.2.2 hS (fun r u1 H locs hw hU hS => ?_)
  obtain ⟨hu1, hw⟩ := hw
  rw [hu1] at hU
  rcases hw with ⟨rfl, b11_1⟩ | ⟨rfl, b11_1⟩
  · refine lv_if_ne (tgt := 19) hF.1 hF.2.1 dX12_view_14 (by decide) (fun _ => ?_) (fun h9 => absurd h9 (by decide))
    refine lv_aload_n hF.1 hF.2.1 dX12_view_19 rfl (lv_at hl 0 rfl) ?_
    refine lv_iload_n hF.1 hF.2.1 dX12_view_20 rfl (lv_at hl 1 rfl) ?_
    refine lv_aload_n hF.1 hF.2.1 dX12_view_21 rfl (lv_at hl 0 rfl) ?_
    refine q_get (v := .int 0) hF hU dX12_view_22 0 12 30 1230 1299 rfl rfl rfl rfl inX12 (by decide) (by decide) w_1363 rfl (congrArg Value.int h_now) ?_
    refine lv_icmp_ne (tgt := 32) hF.1 hF.2.1 dX12_view_25 (by decide) (fun c25_2 => ?_) (fun c25_2 => ?_)
    · refine lv_iload_n hF.1 hF.2.1 dX12_view_32 rfl (lv_at hl 1 rfl) ?_
      refine q_put hF hU hS dX12_view_33 0 12 31 1231 1299 rfl rfl rfl rfl inX12 tyX12 tyX12_ok nmX12 (by decide) (by decide) rfl w_1364 rfl rfl rfl rfl (fun H locs hU hS => ?_)
      refine lv_iconst (v := 1) hF.1 hF.2.1 dX12_view_36 (by decide) ?_
      exact q_iret hF hr (by decide) hlocks hU hS dX12_view_37 (k_X12_view_r0 x b11_1 c25_2)
    · refine lv_iconst (v := (-1)) hF.1 hF.2.1 dX12_view_28 (by decide) ?_
      refine lv_goto (tgt := 33) hF.1 hF.2.1 dX12_view_29 (by decide) ?_
      refine q_put hF hU hS dX12_view_33 0 12 31 1231 1299 rfl rfl rfl rfl inX12 tyX12 tyX12_ok nmX12 (by decide) (by decide) rfl w_1364 rfl rfl rfl rfl (fun H locs hU hS => ?_)
      refine lv_iconst (v := 1) hF.1 hF.2.1 dX12_view_36 (by decide) ?_
      exact q_iret hF hr (by decide) hlocks hU hS dX12_view_37 (k_X12_view_r1 x b11_1 c25_2)
  · refine lv_if_ne (tgt := 19) hF.1 hF.2.1 dX12_view_14 (by decide) (fun h9 => absurd (by decide) h9) (fun _ => ?_)
    refine lv_iconst (v := 0) hF.1 hF.2.1 dX12_view_17 (by decide) ?_
    exact q_iret hF hr (by decide) hlocks hU hS dX12_view_18 (k_X12_view_r2 x b11_1)
theorem k_X12_shop_r0 (x : Int32) (y : Int32) (ch : Int32) (fr : Int32) (to : Int32) (rc : Int32) (b7_1 : (0 ≤ x ∧ x ≤ 99) ∧ (0 ≤ y ∧ y ≤ 99)) (b16_2 : 0 ≤ ch ∧ ch ≤ 3) (b28_3 : 0 ≤ fr ∧ fr ≤ 1439) (b41_4 : fr ≤ to ∧ to ≤ 1439) : (((0 ≤ x ∧ x ≤ 99) ∧ (0 ≤ y ∧ y ≤ 99) ∧ (0 ≤ ch ∧ ch ≤ 3) ∧ (0 ≤ fr ∧ fr ≤ 1439) ∧ fr ≤ to ∧ to ≤ 1439) ∧ (0 : Int32) = 0) ∨ (¬ ((0 ≤ x ∧ x ≤ 99) ∧ (0 ≤ y ∧ y ≤ 99) ∧ (0 ≤ ch ∧ ch ≤ 3) ∧ (0 ≤ fr ∧ fr ≤ 1439) ∧ fr ≤ to ∧ to ≤ 1439) ∧ (0 : Int32) = (-1)) := by
  first | rfl | (simp only [Int32.lt_iff_toInt_lt, Int32.le_iff_toInt_le, ← Int32.toInt_inj, Int32.zero_add, Int32.add_zero] at *; omega) | (simp only [Int32.lt_iff_toInt_lt, Int32.le_iff_toInt_le, ← Int32.toInt_inj, Int32.zero_add, Int32.add_zero] at *; done) | (simp only [Int32.lt_iff_toInt_lt, Int32.le_iff_toInt_le, ← Int32.toInt_inj, Int32.zero_add, Int32.add_zero] at *; simp at *; omega) | (simp at *; omega) | (simp_all; done)
theorem k_X12_shop_r1 (x : Int32) (y : Int32) (ch : Int32) (fr : Int32) (to : Int32) (rc : Int32) (b7_1 : (0 ≤ x ∧ x ≤ 99) ∧ (0 ≤ y ∧ y ≤ 99)) (b16_2 : 0 ≤ ch ∧ ch ≤ 3) (b28_3 : 0 ≤ fr ∧ fr ≤ 1439) (b41_4 : ¬ (fr ≤ to ∧ to ≤ 1439)) : (((0 ≤ x ∧ x ≤ 99) ∧ (0 ≤ y ∧ y ≤ 99) ∧ (0 ≤ ch ∧ ch ≤ 3) ∧ (0 ≤ fr ∧ fr ≤ 1439) ∧ fr ≤ to ∧ to ≤ 1439) ∧ ((-1) : Int32) = 0) ∨ (¬ ((0 ≤ x ∧ x ≤ 99) ∧ (0 ≤ y ∧ y ≤ 99) ∧ (0 ≤ ch ∧ ch ≤ 3) ∧ (0 ≤ fr ∧ fr ≤ 1439) ∧ fr ≤ to ∧ to ≤ 1439) ∧ ((-1) : Int32) = (-1)) := by
  first | rfl | (simp only [Int32.lt_iff_toInt_lt, Int32.le_iff_toInt_le, ← Int32.toInt_inj, Int32.zero_add, Int32.add_zero] at *; omega) | (simp only [Int32.lt_iff_toInt_lt, Int32.le_iff_toInt_le, ← Int32.toInt_inj, Int32.zero_add, Int32.add_zero] at *; done) | (simp only [Int32.lt_iff_toInt_lt, Int32.le_iff_toInt_le, ← Int32.toInt_inj, Int32.zero_add, Int32.add_zero] at *; simp at *; omega) | (simp at *; omega) | (simp_all; done)
theorem k_X12_shop_r2 (x : Int32) (y : Int32) (ch : Int32) (fr : Int32) (to : Int32) (rc : Int32) (b7_1 : (0 ≤ x ∧ x ≤ 99) ∧ (0 ≤ y ∧ y ≤ 99)) (b16_2 : 0 ≤ ch ∧ ch ≤ 3) (b28_3 : ¬ (0 ≤ fr ∧ fr ≤ 1439)) : (((0 ≤ x ∧ x ≤ 99) ∧ (0 ≤ y ∧ y ≤ 99) ∧ (0 ≤ ch ∧ ch ≤ 3) ∧ (0 ≤ fr ∧ fr ≤ 1439) ∧ fr ≤ to ∧ to ≤ 1439) ∧ ((-1) : Int32) = 0) ∨ (¬ ((0 ≤ x ∧ x ≤ 99) ∧ (0 ≤ y ∧ y ≤ 99) ∧ (0 ≤ ch ∧ ch ≤ 3) ∧ (0 ≤ fr ∧ fr ≤ 1439) ∧ fr ≤ to ∧ to ≤ 1439) ∧ ((-1) : Int32) = (-1)) := by
  first | rfl | (simp only [Int32.lt_iff_toInt_lt, Int32.le_iff_toInt_le, ← Int32.toInt_inj, Int32.zero_add, Int32.add_zero] at *; omega) | (simp only [Int32.lt_iff_toInt_lt, Int32.le_iff_toInt_le, ← Int32.toInt_inj, Int32.zero_add, Int32.add_zero] at *; done) | (simp only [Int32.lt_iff_toInt_lt, Int32.le_iff_toInt_le, ← Int32.toInt_inj, Int32.zero_add, Int32.add_zero] at *; simp at *; omega) | (simp at *; omega) | (simp_all; done)
theorem k_X12_shop_r3 (x : Int32) (y : Int32) (ch : Int32) (fr : Int32) (to : Int32) (rc : Int32) (b7_1 : (0 ≤ x ∧ x ≤ 99) ∧ (0 ≤ y ∧ y ≤ 99)) (b16_2 : ¬ (0 ≤ ch ∧ ch ≤ 3)) : (((0 ≤ x ∧ x ≤ 99) ∧ (0 ≤ y ∧ y ≤ 99) ∧ (0 ≤ ch ∧ ch ≤ 3) ∧ (0 ≤ fr ∧ fr ≤ 1439) ∧ fr ≤ to ∧ to ≤ 1439) ∧ ((-1) : Int32) = 0) ∨ (¬ ((0 ≤ x ∧ x ≤ 99) ∧ (0 ≤ y ∧ y ≤ 99) ∧ (0 ≤ ch ∧ ch ≤ 3) ∧ (0 ≤ fr ∧ fr ≤ 1439) ∧ fr ≤ to ∧ to ≤ 1439) ∧ ((-1) : Int32) = (-1)) := by
  first | rfl | (simp only [Int32.lt_iff_toInt_lt, Int32.le_iff_toInt_le, ← Int32.toInt_inj, Int32.zero_add, Int32.add_zero] at *; omega) | (simp only [Int32.lt_iff_toInt_lt, Int32.le_iff_toInt_le, ← Int32.toInt_inj, Int32.zero_add, Int32.add_zero] at *; done) | (simp only [Int32.lt_iff_toInt_lt, Int32.le_iff_toInt_le, ← Int32.toInt_inj, Int32.zero_add, Int32.add_zero] at *; simp at *; omega) | (simp at *; omega) | (simp_all; done)
theorem k_X12_shop_r4 (x : Int32) (y : Int32) (ch : Int32) (fr : Int32) (to : Int32) (rc : Int32) (b7_1 : ¬ ((0 ≤ x ∧ x ≤ 99) ∧ (0 ≤ y ∧ y ≤ 99))) : (((0 ≤ x ∧ x ≤ 99) ∧ (0 ≤ y ∧ y ≤ 99) ∧ (0 ≤ ch ∧ ch ≤ 3) ∧ (0 ≤ fr ∧ fr ≤ 1439) ∧ fr ≤ to ∧ to ≤ 1439) ∧ ((-1) : Int32) = 0) ∨ (¬ ((0 ≤ x ∧ x ≤ 99) ∧ (0 ≤ y ∧ y ≤ 99) ∧ (0 ≤ ch ∧ ch ≤ 3) ∧ (0 ≤ fr ∧ fr ≤ 1439) ∧ fr ≤ to ∧ to ≤ 1439) ∧ ((-1) : Int32) = (-1)) := by
  first | rfl | (simp only [Int32.lt_iff_toInt_lt, Int32.le_iff_toInt_le, ← Int32.toInt_inj, Int32.zero_add, Int32.add_zero] at *; omega) | (simp only [Int32.lt_iff_toInt_lt, Int32.le_iff_toInt_le, ← Int32.toInt_inj, Int32.zero_add, Int32.add_zero] at *; done) | (simp only [Int32.lt_iff_toInt_lt, Int32.le_iff_toInt_le, ← Int32.toInt_inj, Int32.zero_add, Int32.add_zero] at *; simp at *; omega) | (simp at *; omega) | (simp_all; done)
set_option maxHeartbeats 400000 in
set_option maxRecDepth 100000 in
theorem k_X12_shop (l : Launch) (E : qE) (A : Nat → Prop) (u : qS) (x : Int32) (y : Int32) (ch : Int32) (fr : Int32) (to : Int32) (rc : Int32) (h_shops : u.1 1232 = 0) : Met l yX12_shop (uws yX12_shop cX12_shop 7 (some .int)) (qR 2 0 0) (qPc E A 1 u [.ref (E.2.2 1299), .int x, .int y, .int ch, .int fr, .int to, .int rc]) (qQi E A 1 (fun r _ => (((0 ≤ x ∧ x ≤ 99) ∧ (0 ≤ y ∧ y ≤ 99) ∧ (0 ≤ ch ∧ ch ≤ 3) ∧ (0 ≤ fr ∧ fr ≤ 1439) ∧ fr ≤ to ∧ to ≤ 1439) ∧ r = 0) ∨ (¬ ((0 ≤ x ∧ x ≤ 99) ∧ (0 ≤ y ∧ y ≤ 99) ∧ (0 ≤ ch ∧ ch ≤ 3) ∧ (0 ≤ fr ∧ fr ≤ 1439) ∧ fr ≤ to ∧ to ≤ 1439) ∧ r = (-1)))) 0 0 A := by
  refine q_met (own := RX12) (f := 2) [.ref (E.2.2 1299), .int x, .int y, .int ch, .int fr, .int to, .int rc] (by decide) (Nat.le_of_ble_eq_true rfl) rfl ?_
  intro p0 e0 s0 m0 bl0 me0 cd0 ls hF hr hlocks hU hS hA hl
  have hl : lv_has ls 7 [(0, .ref (E.2.2 1299)), (1, .int x), (2, .int y), (3, .int ch), (4, .int fr), (5, .int to), (6, .int rc)] := hl
  refine lv_aload_n hF.1 hF.2.1 dX12_shop_0 rfl (lv_at hl 0 rfl) ?_
  refine lv_iconst (v := 0) hF.1 hF.2.1 dX12_shop_1 (by decide) ?_
  refine q_put hF hU hS dX12_shop_2 0 12 0 1200 1299 rfl rfl rfl rfl inX12 tyX12 tyX12_ok nmX12 (by decide) (by decide) rfl w_1333 rfl rfl rfl rfl (fun H locs hU hS => ?_)
  refine lv_iload_n hF.1 hF.2.1 dX12_shop_5 rfl (lv_at hl 1 rfl) ?_
  refine lv_iload_n hF.1 hF.2.1 dX12_shop_6 rfl (lv_at hl 2 rfl) ?_
  have hM9 := (k_X12_isPlace l E A 1 (qsI u 1200 0) x y)
  have hR9 := q_runS (l := l) (e := e0) (below := bl0) (meth := me0) (R := qR 2 0 0) (cells := 0) (slots := 0) (st0 := [.int y, .int x]) (rest := []) hF hU hS hA 2 hM9 w_1695 w_1696 w_107 w_1697 (by decide +kernel) ⟨Nat.le_of_ble_eq_true rfl, Nat.le_of_ble_eq_true rfl⟩ dX12_shop_7 rfl hl.1 rfl (Nat.le_of_ble_eq_true rfl) ⟨Nat.le_of_ble_eq_true rfl, Nat.le_of_ble_eq_true rfl⟩
  refine q_calli hR9 hU.2.2.2 hS (fun r u1 H locs hw hU hS => ?_)
  obtain ⟨hu1, hw⟩ := hw
  rw [hu1] at hU
  rcases hw with ⟨rfl, b7_1⟩ | ⟨rfl, b7_1⟩
  · refine lv_if_eq (tgt := 56) hF.1 hF.2.1 dX12_shop_10 (by decide) (fun h9 => absurd h9 (by decide)) (fun _ => ?_)
    refine lv_iload_n hF.1 hF.2.1 dX12_shop_13 rfl (lv_at hl 3 rfl) ?_
    refine lv_iconst (v := 0) hF.1 hF.2.1 dX12_shop_14 (by decide) ?_
    refine lv_iconst (v := 3) hF.1 hF.2.1 dX12_shop_15 (by decide) ?_
    have hM9 := (k_X12_within l E A 1 (qsI u 1200 0) ch 0 3)
    have hR9 := q_runS (l := l) (e := e0) (below := bl0) (meth := me0) (R := qR 2 0 0) (cells := 0) (slots := 0) (st0 := [.int 3, .int 0, .int ch]) (rest := []) hF hU hS hA 3 hM9 w_1684 w_1685 w_107 w_1686 (by decide +kernel) ⟨Nat.le_of_ble_eq_true rfl, Nat.le_of_ble_eq_true rfl⟩ dX12_shop_16 rfl hl.1 rfl (Nat.le_of_ble_eq_true rfl) ⟨Nat.le_of_ble_eq_true rfl, Nat.le_of_ble_eq_true rfl⟩
    refine q_calli hR9 hU.2.2.2 hS (fun r u1 H locs hw hU hS => ?_)
    obtain ⟨hu1, hw⟩ := hw
    rw [hu1] at hU
    rcases hw with ⟨rfl, b16_2⟩ | ⟨rfl, b16_2⟩
    · refine lv_if_eq (tgt := 56) hF.1 hF.2.1 dX12_shop_19 (by decide) (fun h9 => absurd h9 (by decide)) (fun _ => ?_)
      refine lv_iload hF.1 hF.2.1 dX12_shop_22 (lv_at hl 4 rfl) ?_
      refine lv_iconst (v := 0) hF.1 hF.2.1 dX12_shop_24 (by decide) ?_
      refine lv_sipush (v := 1439) hF.1 hF.2.1 dX12_shop_25 (by decide) ?_
      have hM9 := (k_X12_within l E A 1 (qsI u 1200 0) fr 0 1439)
      have hR9 := q_runS (l := l) (e := e0) (below := bl0) (meth := me0) (R := qR 2 0 0) (cells := 0) (slots := 0) (st0 := [.int 1439, .int 0, .int fr]) (rest := []) hF hU hS hA 3 hM9 w_1684 w_1685 w_107 w_1686 (by decide +kernel) ⟨Nat.le_of_ble_eq_true rfl, Nat.le_of_ble_eq_true rfl⟩ dX12_shop_28 rfl hl.1 rfl (Nat.le_of_ble_eq_true rfl) ⟨Nat.le_of_ble_eq_true rfl, Nat.le_of_ble_eq_true rfl⟩
      refine q_calli hR9 hU.2.2.2 hS (fun r u1 H locs hw hU hS => ?_)
      obtain ⟨hu1, hw⟩ := hw
      rw [hu1] at hU
      rcases hw with ⟨rfl, b28_3⟩ | ⟨rfl, b28_3⟩
      · refine lv_if_eq (tgt := 56) hF.1 hF.2.1 dX12_shop_31 (by decide) (fun h9 => absurd h9 (by decide)) (fun _ => ?_)
        refine lv_iload hF.1 hF.2.1 dX12_shop_34 (lv_at hl 5 rfl) ?_
        refine lv_iload hF.1 hF.2.1 dX12_shop_36 (lv_at hl 4 rfl) ?_
        refine lv_sipush (v := 1439) hF.1 hF.2.1 dX12_shop_38 (by decide) ?_
        have hM9 := (k_X12_within l E A 1 (qsI u 1200 0) to fr 1439)
        have hR9 := q_runS (l := l) (e := e0) (below := bl0) (meth := me0) (R := qR 2 0 0) (cells := 0) (slots := 0) (st0 := [.int 1439, .int fr, .int to]) (rest := []) hF hU hS hA 3 hM9 w_1684 w_1685 w_107 w_1686 (by decide +kernel) ⟨Nat.le_of_ble_eq_true rfl, Nat.le_of_ble_eq_true rfl⟩ dX12_shop_41 rfl hl.1 rfl (Nat.le_of_ble_eq_true rfl) ⟨Nat.le_of_ble_eq_true rfl, Nat.le_of_ble_eq_true rfl⟩
        refine q_calli hR9 hU.2.2.2 hS (fun r u1 H locs hw hU hS => ?_)
        obtain ⟨hu1, hw⟩ := hw
        rw [hu1] at hU
        rcases hw with ⟨rfl, b41_4⟩ | ⟨rfl, b41_4⟩
        · refine lv_if_eq (tgt := 56) hF.1 hF.2.1 dX12_shop_44 (by decide) (fun h9 => absurd h9 (by decide)) (fun _ => ?_)
          refine lv_aload_n hF.1 hF.2.1 dX12_shop_47 rfl (lv_at hl 0 rfl) ?_
          refine q_get (v := .int 0) hF hU dX12_shop_48 0 12 32 1232 1299 rfl rfl rfl rfl inX12 (by decide) (by decide) w_1365 rfl (congrArg Value.int h_shops) ?_
          refine lv_bipush (v := 20) hF.1 hF.2.1 dX12_shop_51 (by decide) ?_
          refine lv_icmp_ne (tgt := 58) hF.1 hF.2.1 dX12_shop_53 (by decide) (fun _ => ?_) (fun h9 => absurd h9 (by decide))
          refine lv_aload_n hF.1 hF.2.1 dX12_shop_58 rfl (lv_at hl 0 rfl) ?_
          refine q_get (v := .ref (E.2.2 1233)) hF hU dX12_shop_59 0 12 33 1233 1299 rfl rfl rfl rfl inX12 (by decide) (by decide) w_1366 rfl rfl ?_
          refine lv_aload_n hF.1 hF.2.1 dX12_shop_62 rfl (lv_at hl 0 rfl) ?_
          refine q_get (v := .int 0) hF hU dX12_shop_63 0 12 32 1232 1299 rfl rfl rfl rfl inX12 (by decide) (by decide) w_1365 rfl (congrArg Value.int h_shops) ?_
          refine lv_iload_n hF.1 hF.2.1 dX12_shop_66 rfl (lv_at hl 1 rfl) ?_
          refine q_iast hF hU hS dX12_shop_67 19 1233 rfl rfl (q_in (by decide)) (fun f_5 H locs hg hU hS => ?_)
          have hf_5 : upd (u.2.1 1233) (0 : Int32).toNatClampNeg x = f_5 := hg.symm
          have e_6 : f_5 (0 : Int32).toNatClampNeg = x := by rw [← hf_5]; exact pk_us
          refine lv_aload_n hF.1 hF.2.1 dX12_shop_68 rfl (lv_at hl 0 rfl) ?_
          refine q_get (v := .ref (E.2.2 1234)) hF hU dX12_shop_69 0 12 34 1234 1299 rfl rfl rfl rfl inX12 (by decide) (by decide) w_1367 rfl rfl ?_
          refine lv_aload_n hF.1 hF.2.1 dX12_shop_72 rfl (lv_at hl 0 rfl) ?_
          refine q_get (v := .int 0) hF hU dX12_shop_73 0 12 32 1232 1299 rfl rfl rfl rfl inX12 (by decide) (by decide) w_1365 rfl (congrArg Value.int h_shops) ?_
          refine lv_iload_n hF.1 hF.2.1 dX12_shop_76 rfl (lv_at hl 2 rfl) ?_
          refine q_iast hF hU hS dX12_shop_77 20 1234 rfl rfl (q_in (by decide)) (fun f_7 H locs hg hU hS => ?_)
          have hf_7 : upd (u.2.1 1234) (0 : Int32).toNatClampNeg y = f_7 := hg.symm
          have e_8 : f_7 (0 : Int32).toNatClampNeg = y := by rw [← hf_7]; exact pk_us
          refine lv_aload_n hF.1 hF.2.1 dX12_shop_78 rfl (lv_at hl 0 rfl) ?_
          refine q_get (v := .ref (E.2.2 1235)) hF hU dX12_shop_79 0 12 35 1235 1299 rfl rfl rfl rfl inX12 (by decide) (by decide) w_1368 rfl rfl ?_
          refine lv_aload_n hF.1 hF.2.1 dX12_shop_82 rfl (lv_at hl 0 rfl) ?_
          refine q_get (v := .int 0) hF hU dX12_shop_83 0 12 32 1232 1299 rfl rfl rfl rfl inX12 (by decide) (by decide) w_1365 rfl (congrArg Value.int h_shops) ?_
          refine lv_iload_n hF.1 hF.2.1 dX12_shop_86 rfl (lv_at hl 3 rfl) ?_
          refine q_iast hF hU hS dX12_shop_87 21 1235 rfl rfl (q_in (by decide)) (fun f_9 H locs hg hU hS => ?_)
          have hf_9 : upd (u.2.1 1235) (0 : Int32).toNatClampNeg ch = f_9 := hg.symm
          have e_10 : f_9 (0 : Int32).toNatClampNeg = ch := by rw [← hf_9]; exact pk_us
          refine lv_aload_n hF.1 hF.2.1 dX12_shop_88 rfl (lv_at hl 0 rfl) ?_
          refine q_get (v := .ref (E.2.2 1236)) hF hU dX12_shop_89 0 12 36 1236 1299 rfl rfl rfl rfl inX12 (by decide) (by decide) w_1369 rfl rfl ?_
          refine lv_aload_n hF.1 hF.2.1 dX12_shop_92 rfl (lv_at hl 0 rfl) ?_
          refine q_get (v := .int 0) hF hU dX12_shop_93 0 12 32 1232 1299 rfl rfl rfl rfl inX12 (by decide) (by decide) w_1365 rfl (congrArg Value.int h_shops) ?_
          refine lv_iload hF.1 hF.2.1 dX12_shop_96 (lv_at hl 4 rfl) ?_
          refine q_iast hF hU hS dX12_shop_98 22 1236 rfl rfl (q_in (by decide)) (fun f_11 H locs hg hU hS => ?_)
          have hf_11 : upd (u.2.1 1236) (0 : Int32).toNatClampNeg fr = f_11 := hg.symm
          have e_12 : f_11 (0 : Int32).toNatClampNeg = fr := by rw [← hf_11]; exact pk_us
          refine lv_aload_n hF.1 hF.2.1 dX12_shop_99 rfl (lv_at hl 0 rfl) ?_
          refine q_get (v := .ref (E.2.2 1237)) hF hU dX12_shop_100 0 12 37 1237 1299 rfl rfl rfl rfl inX12 (by decide) (by decide) w_1370 rfl rfl ?_
          refine lv_aload_n hF.1 hF.2.1 dX12_shop_103 rfl (lv_at hl 0 rfl) ?_
          refine q_get (v := .int 0) hF hU dX12_shop_104 0 12 32 1232 1299 rfl rfl rfl rfl inX12 (by decide) (by decide) w_1365 rfl (congrArg Value.int h_shops) ?_
          refine lv_iload hF.1 hF.2.1 dX12_shop_107 (lv_at hl 5 rfl) ?_
          refine q_iast hF hU hS dX12_shop_109 23 1237 rfl rfl (q_in (by decide)) (fun f_13 H locs hg hU hS => ?_)
          have hf_13 : upd (u.2.1 1237) (0 : Int32).toNatClampNeg to = f_13 := hg.symm
          have e_14 : f_13 (0 : Int32).toNatClampNeg = to := by rw [← hf_13]; exact pk_us
          refine lv_aload_n hF.1 hF.2.1 dX12_shop_110 rfl (lv_at hl 0 rfl) ?_
          refine q_get (v := .ref (E.2.2 1238)) hF hU dX12_shop_111 0 12 38 1238 1299 rfl rfl rfl rfl inX12 (by decide) (by decide) w_1371 rfl rfl ?_
          refine lv_aload_n hF.1 hF.2.1 dX12_shop_114 rfl (lv_at hl 0 rfl) ?_
          refine q_get (v := .int 0) hF hU dX12_shop_115 0 12 32 1232 1299 rfl rfl rfl rfl inX12 (by decide) (by decide) w_1365 rfl (congrArg Value.int h_shops) ?_
          refine lv_iload hF.1 hF.2.1 dX12_shop_118 (lv_at hl 6 rfl) ?_
          refine q_zast hF hU hS dX12_shop_120 24 1238 rfl rfl (q_in (by decide)) rfl (fun f_15 H locs hg hU hS => ?_)
          have hf_15 : upd (u.2.1 1238) (0 : Int32).toNatClampNeg (vp_nar .boolean rc) = f_15 := hg.symm
          refine lv_aload_n hF.1 hF.2.1 dX12_shop_121 rfl (lv_at hl 0 rfl) ?_
          refine lv_dup hF.1 hF.2.1 dX12_shop_122 rfl ?_
          refine q_get (v := .int 0) hF hU dX12_shop_123 0 12 32 1232 1299 rfl rfl rfl rfl inX12 (by decide) (by decide) w_1365 rfl (congrArg Value.int h_shops) ?_
          refine lv_iconst (v := 1) hF.1 hF.2.1 dX12_shop_126 (by decide) ?_
          refine lv_iadd hF.1 hF.2.1 dX12_shop_127 ?_
          refine q_topi (y := 1) (by decide) ?_
          refine q_put hF hU hS dX12_shop_128 0 12 32 1232 1299 rfl rfl rfl rfl inX12 tyX12 tyX12_ok nmX12 (by decide) (by decide) rfl w_1365 rfl rfl rfl rfl (fun H locs hU hS => ?_)
          refine lv_aload_n hF.1 hF.2.1 dX12_shop_131 rfl (lv_at hl 0 rfl) ?_
          refine q_get (v := .int 1) hF hU dX12_shop_132 0 12 32 1232 1299 rfl rfl rfl rfl inX12 (by decide) (by decide) w_1365 rfl rfl ?_
          refine lv_iconst (v := 1) hF.1 hF.2.1 dX12_shop_135 (by decide) ?_
          refine lv_isub hF.1 hF.2.1 dX12_shop_136 ?_
          refine q_topi (y := 0) (by decide) ?_
          exact q_iret hF hr rfl hlocks hU hS dX12_shop_137 (k_X12_shop_r0 x y ch fr to rc b7_1 b16_2 b28_3 b41_4)
        · refine lv_if_eq (tgt := 56) hF.1 hF.2.1 dX12_shop_44 (by decide) (fun _ => ?_) (fun h9 => absurd (by decide) h9)
          refine lv_iconst (v := (-1)) hF.1 hF.2.1 dX12_shop_56 (by decide) ?_
          exact q_iret hF hr rfl hlocks hU hS dX12_shop_57 (k_X12_shop_r1 x y ch fr to rc b7_1 b16_2 b28_3 b41_4)
      · refine lv_if_eq (tgt := 56) hF.1 hF.2.1 dX12_shop_31 (by decide) (fun _ => ?_) (fun h9 => absurd (by decide) h9)
        refine lv_iconst (v := (-1)) hF.1 hF.2.1 dX12_shop_56 (by decide) ?_
        exact q_iret hF hr rfl hlocks hU hS dX12_shop_57 (k_X12_shop_r2 x y ch fr to rc b7_1 b16_2 b28_3)
    · refine lv_if_eq (tgt := 56) hF.1 hF.2.1 dX12_shop_19 (by decide) (fun _ => ?_) (fun h9 => absurd (by decide) h9)
      refine lv_iconst (v := (-1)) hF.1 hF.2.1 dX12_shop_56 (by decide) ?_
      exact q_iret hF hr rfl hlocks hU hS dX12_shop_57 (k_X12_shop_r3 x y ch fr to rc b7_1 b16_2)
  · refine lv_if_eq (tgt := 56) hF.1 hF.2.1 dX12_shop_10 (by decide) (fun _ => ?_) (fun h9 => absurd (by decide) h9)
    refine lv_iconst (v := (-1)) hF.1 hF.2.1 dX12_shop_56 (by decide) ?_
    exact q_iret hF hr rfl hlocks hU hS dX12_shop_57 (k_X12_shop_r4 x y ch fr to rc b7_1)
theorem k_X12_buyer_r0 (x : Int32) (y : Int32) (b7_1 : (0 ≤ x ∧ x ≤ 99) ∧ (0 ≤ y ∧ y ≤ 99)) : (((0 ≤ x ∧ x ≤ 99) ∧ (0 ≤ y ∧ y ≤ 99)) ∧ (0 : Int32) = 0) ∨ (¬ ((0 ≤ x ∧ x ≤ 99) ∧ (0 ≤ y ∧ y ≤ 99)) ∧ (0 : Int32) = (-1)) := by
  first | rfl | (simp only [Int32.lt_iff_toInt_lt, Int32.le_iff_toInt_le, ← Int32.toInt_inj, Int32.zero_add, Int32.add_zero] at *; omega) | (simp only [Int32.lt_iff_toInt_lt, Int32.le_iff_toInt_le, ← Int32.toInt_inj, Int32.zero_add, Int32.add_zero] at *; done) | (simp only [Int32.lt_iff_toInt_lt, Int32.le_iff_toInt_le, ← Int32.toInt_inj, Int32.zero_add, Int32.add_zero] at *; simp at *; omega) | (simp at *; omega) | (simp_all; done)
theorem k_X12_buyer_r1 (x : Int32) (y : Int32) (b7_1 : ¬ ((0 ≤ x ∧ x ≤ 99) ∧ (0 ≤ y ∧ y ≤ 99))) : (((0 ≤ x ∧ x ≤ 99) ∧ (0 ≤ y ∧ y ≤ 99)) ∧ ((-1) : Int32) = 0) ∨ (¬ ((0 ≤ x ∧ x ≤ 99) ∧ (0 ≤ y ∧ y ≤ 99)) ∧ ((-1) : Int32) = (-1)) := by
  first | rfl | (simp only [Int32.lt_iff_toInt_lt, Int32.le_iff_toInt_le, ← Int32.toInt_inj, Int32.zero_add, Int32.add_zero] at *; omega) | (simp only [Int32.lt_iff_toInt_lt, Int32.le_iff_toInt_le, ← Int32.toInt_inj, Int32.zero_add, Int32.add_zero] at *; done) | (simp only [Int32.lt_iff_toInt_lt, Int32.le_iff_toInt_le, ← Int32.toInt_inj, Int32.zero_add, Int32.add_zero] at *; simp at *; omega) | (simp at *; omega) | (simp_all; done)
set_option maxHeartbeats 400000 in
set_option maxRecDepth 100000 in
theorem k_X12_buyer (l : Launch) (E : qE) (A : Nat → Prop) (u : qS) (x : Int32) (y : Int32) (h_buyers : u.1 1239 = 0) : Met l yX12_buyer (uws yX12_buyer cX12_buyer 3 (some .int)) (qR 2 0 0) (qPc E A 1 u [.ref (E.2.2 1299), .int x, .int y]) (qQi E A 1 (fun r _ => (((0 ≤ x ∧ x ≤ 99) ∧ (0 ≤ y ∧ y ≤ 99)) ∧ r = 0) ∨ (¬ ((0 ≤ x ∧ x ≤ 99) ∧ (0 ≤ y ∧ y ≤ 99)) ∧ r = (-1)))) 0 0 A := by
  refine q_met (own := RX12) (f := 2) [.ref (E.2.2 1299), .int x, .int y] (by decide) (Nat.le_of_ble_eq_true rfl) rfl ?_
  intro p0 e0 s0 m0 bl0 me0 cd0 ls hF hr hlocks hU hS hA hl
  have hl : lv_has ls 3 [(0, .ref (E.2.2 1299)), (1, .int x), (2, .int y)] := hl
  refine lv_aload_n hF.1 hF.2.1 dX12_buyer_0 rfl (lv_at hl 0 rfl) ?_
  refine lv_iconst (v := 0) hF.1 hF.2.1 dX12_buyer_1 (by decide) ?_
  refine q_put hF hU hS dX12_buyer_2 0 12 0 1200 1299 rfl rfl rfl rfl inX12 tyX12 tyX12_ok nmX12 (by decide) (by decide) rfl w_1333 rfl rfl rfl rfl (fun H locs hU hS => ?_)
  refine lv_iload_n hF.1 hF.2.1 dX12_buyer_5 rfl (lv_at hl 1 rfl) ?_
  refine lv_iload_n hF.1 hF.2.1 dX12_buyer_6 rfl (lv_at hl 2 rfl) ?_
  have hM9 := (k_X12_isPlace l E A 1 (qsI u 1200 0) x y)
  have hR9 := q_runS (l := l) (e := e0) (below := bl0) (meth := me0) (R := qR 2 0 0) (cells := 0) (slots := 0) (st0 := [.int y, .int x]) (rest := []) hF hU hS hA 2 hM9 w_1695 w_1696 w_107 w_1697 (by decide +kernel) ⟨Nat.le_of_ble_eq_true rfl, Nat.le_of_ble_eq_true rfl⟩ dX12_buyer_7 rfl hl.1 rfl (Nat.le_of_ble_eq_true rfl) ⟨Nat.le_of_ble_eq_true rfl, Nat.le_of_ble_eq_true rfl⟩
  refine q_calli hR9 hU.2.2.2 hS (fun r u1 H locs hw hU hS => ?_)
  obtain ⟨hu1, hw⟩ := hw
  rw [hu1] at hU
  rcases hw with ⟨rfl, b7_1⟩ | ⟨rfl, b7_1⟩
  · refine lv_if_eq (tgt := 22) hF.1 hF.2.1 dX12_buyer_10 (by decide) (fun h9 => absurd h9 (by decide)) (fun _ => ?_)
    refine lv_aload_n hF.1 hF.2.1 dX12_buyer_13 rfl (lv_at hl 0 rfl) ?_
    refine q_get (v := .int 0) hF hU dX12_buyer_14 0 12 39 1239 1299 rfl rfl rfl rfl inX12 (by decide) (by decide) w_1372 rfl (congrArg Value.int h_buyers) ?_
    refine lv_bipush (v := 8) hF.1 hF.2.1 dX12_buyer_17 (by decide) ?_
    refine lv_icmp_ne (tgt := 24) hF.1 hF.2.1 dX12_buyer_19 (by decide) (fun _ => ?_) (fun h9 => absurd h9 (by decide))
    refine lv_aload_n hF.1 hF.2.1 dX12_buyer_24 rfl (lv_at hl 0 rfl) ?_
    refine q_get (v := .ref (E.2.2 1240)) hF hU dX12_buyer_25 0 12 40 1240 1299 rfl rfl rfl rfl inX12 (by decide) (by decide) w_1373 rfl rfl ?_
    refine lv_aload_n hF.1 hF.2.1 dX12_buyer_28 rfl (lv_at hl 0 rfl) ?_
    refine q_get (v := .int 0) hF hU dX12_buyer_29 0 12 39 1239 1299 rfl rfl rfl rfl inX12 (by decide) (by decide) w_1372 rfl (congrArg Value.int h_buyers) ?_
    refine lv_iload_n hF.1 hF.2.1 dX12_buyer_32 rfl (lv_at hl 1 rfl) ?_
    refine q_iast hF hU hS dX12_buyer_33 25 1240 rfl rfl (q_in (by decide)) (fun f_2 H locs hg hU hS => ?_)
    have hf_2 : upd (u.2.1 1240) (0 : Int32).toNatClampNeg x = f_2 := hg.symm
    have e_3 : f_2 (0 : Int32).toNatClampNeg = x := by rw [← hf_2]; exact pk_us
    refine lv_aload_n hF.1 hF.2.1 dX12_buyer_34 rfl (lv_at hl 0 rfl) ?_
    refine q_get (v := .ref (E.2.2 1241)) hF hU dX12_buyer_35 0 12 41 1241 1299 rfl rfl rfl rfl inX12 (by decide) (by decide) w_1374 rfl rfl ?_
    refine lv_aload_n hF.1 hF.2.1 dX12_buyer_38 rfl (lv_at hl 0 rfl) ?_
    refine q_get (v := .int 0) hF hU dX12_buyer_39 0 12 39 1239 1299 rfl rfl rfl rfl inX12 (by decide) (by decide) w_1372 rfl (congrArg Value.int h_buyers) ?_
    refine lv_iload_n hF.1 hF.2.1 dX12_buyer_42 rfl (lv_at hl 2 rfl) ?_
    refine q_iast hF hU hS dX12_buyer_43 26 1241 rfl rfl (q_in (by decide)) (fun f_4 H locs hg hU hS => ?_)
    have hf_4 : upd (u.2.1 1241) (0 : Int32).toNatClampNeg y = f_4 := hg.symm
    have e_5 : f_4 (0 : Int32).toNatClampNeg = y := by rw [← hf_4]; exact pk_us
    refine lv_aload_n hF.1 hF.2.1 dX12_buyer_44 rfl (lv_at hl 0 rfl) ?_
    refine lv_dup hF.1 hF.2.1 dX12_buyer_45 rfl ?_
    refine q_get (v := .int 0) hF hU dX12_buyer_46 0 12 39 1239 1299 rfl rfl rfl rfl inX12 (by decide) (by decide) w_1372 rfl (congrArg Value.int h_buyers) ?_
    refine lv_iconst (v := 1) hF.1 hF.2.1 dX12_buyer_49 (by decide) ?_
    refine lv_iadd hF.1 hF.2.1 dX12_buyer_50 ?_
    refine q_topi (y := 1) (by decide) ?_
    refine q_put hF hU hS dX12_buyer_51 0 12 39 1239 1299 rfl rfl rfl rfl inX12 tyX12 tyX12_ok nmX12 (by decide) (by decide) rfl w_1372 rfl rfl rfl rfl (fun H locs hU hS => ?_)
    refine lv_aload_n hF.1 hF.2.1 dX12_buyer_54 rfl (lv_at hl 0 rfl) ?_
    refine q_get (v := .int 1) hF hU dX12_buyer_55 0 12 39 1239 1299 rfl rfl rfl rfl inX12 (by decide) (by decide) w_1372 rfl rfl ?_
    refine lv_iconst (v := 1) hF.1 hF.2.1 dX12_buyer_58 (by decide) ?_
    refine lv_isub hF.1 hF.2.1 dX12_buyer_59 ?_
    refine q_topi (y := 0) (by decide) ?_
    exact q_iret hF hr rfl hlocks hU hS dX12_buyer_60 (k_X12_buyer_r0 x y b7_1)
  · refine lv_if_eq (tgt := 22) hF.1 hF.2.1 dX12_buyer_10 (by decide) (fun _ => ?_) (fun h9 => absurd (by decide) h9)
    refine lv_iconst (v := (-1)) hF.1 hF.2.1 dX12_buyer_22 (by decide) ?_
    exact q_iret hF hr rfl hlocks hU hS dX12_buyer_23 (k_X12_buyer_r1 x y b7_1)
theorem k_X12_terms_r0 (x : Int32) (y : Int32) (z : Int32) (b9_1 : 1 ≤ x ∧ x ≤ 60) (b20_2 : 0 ≤ y ∧ y ≤ 999) (b31_3 : 0 ≤ z ∧ z ≤ 1000) : (((1 ≤ x ∧ x ≤ 60) ∧ (0 ≤ y ∧ y ≤ 999) ∧ (0 ≤ z ∧ z ≤ 1000)) ∧ (1 : Int32) = 1) ∨ (¬ ((1 ≤ x ∧ x ≤ 60) ∧ (0 ≤ y ∧ y ≤ 999) ∧ (0 ≤ z ∧ z ≤ 1000)) ∧ (1 : Int32) = 0) := by
  first | rfl | (simp only [Int32.lt_iff_toInt_lt, Int32.le_iff_toInt_le, ← Int32.toInt_inj, Int32.zero_add, Int32.add_zero] at *; omega) | (simp only [Int32.lt_iff_toInt_lt, Int32.le_iff_toInt_le, ← Int32.toInt_inj, Int32.zero_add, Int32.add_zero] at *; done) | (simp only [Int32.lt_iff_toInt_lt, Int32.le_iff_toInt_le, ← Int32.toInt_inj, Int32.zero_add, Int32.add_zero] at *; simp at *; omega) | (simp at *; omega) | (simp_all; done)
theorem k_X12_terms_r1 (x : Int32) (y : Int32) (z : Int32) (b9_1 : 1 ≤ x ∧ x ≤ 60) (b20_2 : 0 ≤ y ∧ y ≤ 999) (b31_3 : ¬ (0 ≤ z ∧ z ≤ 1000)) : (((1 ≤ x ∧ x ≤ 60) ∧ (0 ≤ y ∧ y ≤ 999) ∧ (0 ≤ z ∧ z ≤ 1000)) ∧ (0 : Int32) = 1) ∨ (¬ ((1 ≤ x ∧ x ≤ 60) ∧ (0 ≤ y ∧ y ≤ 999) ∧ (0 ≤ z ∧ z ≤ 1000)) ∧ (0 : Int32) = 0) := by
  first | rfl | (simp only [Int32.lt_iff_toInt_lt, Int32.le_iff_toInt_le, ← Int32.toInt_inj, Int32.zero_add, Int32.add_zero] at *; omega) | (simp only [Int32.lt_iff_toInt_lt, Int32.le_iff_toInt_le, ← Int32.toInt_inj, Int32.zero_add, Int32.add_zero] at *; done) | (simp only [Int32.lt_iff_toInt_lt, Int32.le_iff_toInt_le, ← Int32.toInt_inj, Int32.zero_add, Int32.add_zero] at *; simp at *; omega) | (simp at *; omega) | (simp_all; done)
theorem k_X12_terms_r2 (x : Int32) (y : Int32) (z : Int32) (b9_1 : 1 ≤ x ∧ x ≤ 60) (b20_2 : ¬ (0 ≤ y ∧ y ≤ 999)) : (((1 ≤ x ∧ x ≤ 60) ∧ (0 ≤ y ∧ y ≤ 999) ∧ (0 ≤ z ∧ z ≤ 1000)) ∧ (0 : Int32) = 1) ∨ (¬ ((1 ≤ x ∧ x ≤ 60) ∧ (0 ≤ y ∧ y ≤ 999) ∧ (0 ≤ z ∧ z ≤ 1000)) ∧ (0 : Int32) = 0) := by
  first | rfl | (simp only [Int32.lt_iff_toInt_lt, Int32.le_iff_toInt_le, ← Int32.toInt_inj, Int32.zero_add, Int32.add_zero] at *; omega) | (simp only [Int32.lt_iff_toInt_lt, Int32.le_iff_toInt_le, ← Int32.toInt_inj, Int32.zero_add, Int32.add_zero] at *; done) | (simp only [Int32.lt_iff_toInt_lt, Int32.le_iff_toInt_le, ← Int32.toInt_inj, Int32.zero_add, Int32.add_zero] at *; simp at *; omega) | (simp at *; omega) | (simp_all; done)
theorem k_X12_terms_r3 (x : Int32) (y : Int32) (z : Int32) (b9_1 : ¬ (1 ≤ x ∧ x ≤ 60)) : (((1 ≤ x ∧ x ≤ 60) ∧ (0 ≤ y ∧ y ≤ 999) ∧ (0 ≤ z ∧ z ≤ 1000)) ∧ (0 : Int32) = 1) ∨ (¬ ((1 ≤ x ∧ x ≤ 60) ∧ (0 ≤ y ∧ y ≤ 999) ∧ (0 ≤ z ∧ z ≤ 1000)) ∧ (0 : Int32) = 0) := by
  first | rfl | (simp only [Int32.lt_iff_toInt_lt, Int32.le_iff_toInt_le, ← Int32.toInt_inj, Int32.zero_add, Int32.add_zero] at *; omega) | (simp only [Int32.lt_iff_toInt_lt, Int32.le_iff_toInt_le, ← Int32.toInt_inj, Int32.zero_add, Int32.add_zero] at *; done) | (simp only [Int32.lt_iff_toInt_lt, Int32.le_iff_toInt_le, ← Int32.toInt_inj, Int32.zero_add, Int32.add_zero] at *; simp at *; omega) | (simp at *; omega) | (simp_all; done)
set_option maxHeartbeats 400000 in
set_option maxRecDepth 100000 in
theorem k_X12_terms (l : Launch) (E : qE) (A : Nat → Prop) (u : qS) (x : Int32) (y : Int32) (z : Int32) : Met l yX12_terms (uws yX12_terms cX12_terms 4 (some .boolean)) (qR 2 0 0) (qPc E A 1 u [.ref (E.2.2 1299), .int x, .int y, .int z]) (qQi E A 1 (fun r _ => (((1 ≤ x ∧ x ≤ 60) ∧ (0 ≤ y ∧ y ≤ 999) ∧ (0 ≤ z ∧ z ≤ 1000)) ∧ r = 1) ∨ (¬ ((1 ≤ x ∧ x ≤ 60) ∧ (0 ≤ y ∧ y ≤ 999) ∧ (0 ≤ z ∧ z ≤ 1000)) ∧ r = 0))) 0 0 A := by
  refine q_met (own := RX12) (f := 2) [.ref (E.2.2 1299), .int x, .int y, .int z] (by decide) (Nat.le_of_ble_eq_true rfl) rfl ?_
  intro p0 e0 s0 m0 bl0 me0 cd0 ls hF hr hlocks hU hS hA hl
  have hl : lv_has ls 4 [(0, .ref (E.2.2 1299)), (1, .int x), (2, .int y), (3, .int z)] := hl
  refine lv_aload_n hF.1 hF.2.1 dX12_terms_0 rfl (lv_at hl 0 rfl) ?_
  refine lv_iconst (v := 0) hF.1 hF.2.1 dX12_terms_1 (by decide) ?_
  refine q_put hF hU hS dX12_terms_2 0 12 0 1200 1299 rfl rfl rfl rfl inX12 tyX12 tyX12_ok nmX12 (by decide) (by decide) rfl w_1333 rfl rfl rfl rfl (fun H locs hU hS => ?_)
  refine lv_iload_n hF.1 hF.2.1 dX12_terms_5 rfl (lv_at hl 1 rfl) ?_
  refine lv_iconst (v := 1) hF.1 hF.2.1 dX12_terms_6 (by decide) ?_
  refine lv_bipush (v := 60) hF.1 hF.2.1 dX12_terms_7 (by decide) ?_
  have hM9 := (k_X12_within l E A 1 (qsI u 1200 0) x 1 60)
  have hR9 := q_runS (l := l) (e := e0) (below := bl0) (meth := me0) (R := qR 2 0 0) (cells := 0) (slots := 0) (st0 := [.int 60, .int 1, .int x]) (rest := []) hF hU hS hA 3 hM9 w_1684 w_1685 w_107 w_1686 (by decide +kernel) ⟨Nat.le_of_ble_eq_true rfl, Nat.le_of_ble_eq_true rfl⟩ dX12_terms_9 rfl hl.1 rfl (Nat.le_of_ble_eq_true rfl) ⟨Nat.le_of_ble_eq_true rfl, Nat.le_of_ble_eq_true rfl⟩
  refine q_calli hR9 hU.2.2.2 hS (fun r u1 H locs hw hU hS => ?_)
  obtain ⟨hu1, hw⟩ := hw
  rw [hu1] at hU
  rcases hw with ⟨rfl, b9_1⟩ | ⟨rfl, b9_1⟩
  · refine lv_if_eq (tgt := 37) hF.1 hF.2.1 dX12_terms_12 (by decide) (fun h9 => absurd h9 (by decide)) (fun _ => ?_)
    refine lv_iload_n hF.1 hF.2.1 dX12_terms_15 rfl (lv_at hl 2 rfl) ?_
    refine lv_iconst (v := 0) hF.1 hF.2.1 dX12_terms_16 (by decide) ?_
    refine lv_sipush (v := 999) hF.1 hF.2.1 dX12_terms_17 (by decide) ?_
    have hM9 := (k_X12_within l E A 1 (qsI u 1200 0) y 0 999)
    have hR9 := q_runS (l := l) (e := e0) (below := bl0) (meth := me0) (R := qR 2 0 0) (cells := 0) (slots := 0) (st0 := [.int 999, .int 0, .int y]) (rest := []) hF hU hS hA 3 hM9 w_1684 w_1685 w_107 w_1686 (by decide +kernel) ⟨Nat.le_of_ble_eq_true rfl, Nat.le_of_ble_eq_true rfl⟩ dX12_terms_20 rfl hl.1 rfl (Nat.le_of_ble_eq_true rfl) ⟨Nat.le_of_ble_eq_true rfl, Nat.le_of_ble_eq_true rfl⟩
    refine q_calli hR9 hU.2.2.2 hS (fun r u1 H locs hw hU hS => ?_)
    obtain ⟨hu1, hw⟩ := hw
    rw [hu1] at hU
    rcases hw with ⟨rfl, b20_2⟩ | ⟨rfl, b20_2⟩
    · refine lv_if_eq (tgt := 37) hF.1 hF.2.1 dX12_terms_23 (by decide) (fun h9 => absurd h9 (by decide)) (fun _ => ?_)
      refine lv_iload_n hF.1 hF.2.1 dX12_terms_26 rfl (lv_at hl 3 rfl) ?_
      refine lv_iconst (v := 0) hF.1 hF.2.1 dX12_terms_27 (by decide) ?_
      refine lv_sipush (v := 1000) hF.1 hF.2.1 dX12_terms_28 (by decide) ?_
      have hM9 := (k_X12_within l E A 1 (qsI u 1200 0) z 0 1000)
      have hR9 := q_runS (l := l) (e := e0) (below := bl0) (meth := me0) (R := qR 2 0 0) (cells := 0) (slots := 0) (st0 := [.int 1000, .int 0, .int z]) (rest := []) hF hU hS hA 3 hM9 w_1684 w_1685 w_107 w_1686 (by decide +kernel) ⟨Nat.le_of_ble_eq_true rfl, Nat.le_of_ble_eq_true rfl⟩ dX12_terms_31 rfl hl.1 rfl (Nat.le_of_ble_eq_true rfl) ⟨Nat.le_of_ble_eq_true rfl, Nat.le_of_ble_eq_true rfl⟩
      refine q_calli hR9 hU.2.2.2 hS (fun r u1 H locs hw hU hS => ?_)
      obtain ⟨hu1, hw⟩ := hw
      rw [hu1] at hU
      rcases hw with ⟨rfl, b31_3⟩ | ⟨rfl, b31_3⟩
      · refine lv_if_ne (tgt := 39) hF.1 hF.2.1 dX12_terms_34 (by decide) (fun _ => ?_) (fun h9 => absurd h9 (by decide))
        refine lv_aload_n hF.1 hF.2.1 dX12_terms_39 rfl (lv_at hl 0 rfl) ?_
        refine lv_iload_n hF.1 hF.2.1 dX12_terms_40 rfl (lv_at hl 1 rfl) ?_
        refine q_put hF hU hS dX12_terms_41 0 12 42 1242 1299 rfl rfl rfl rfl inX12 tyX12 tyX12_ok nmX12 (by decide) (by decide) rfl w_1375 rfl rfl rfl rfl (fun H locs hU hS => ?_)
        refine lv_aload_n hF.1 hF.2.1 dX12_terms_44 rfl (lv_at hl 0 rfl) ?_
        refine lv_iload_n hF.1 hF.2.1 dX12_terms_45 rfl (lv_at hl 2 rfl) ?_
        refine q_put hF hU hS dX12_terms_46 0 12 43 1243 1299 rfl rfl rfl rfl inX12 tyX12 tyX12_ok nmX12 (by decide) (by decide) rfl w_1376 rfl rfl rfl rfl (fun H locs hU hS => ?_)
        refine lv_aload_n hF.1 hF.2.1 dX12_terms_49 rfl (lv_at hl 0 rfl) ?_
        refine lv_iload_n hF.1 hF.2.1 dX12_terms_50 rfl (lv_at hl 3 rfl) ?_
        refine q_put hF hU hS dX12_terms_51 0 12 44 1244 1299 rfl rfl rfl rfl inX12 tyX12 tyX12_ok nmX12 (by decide) (by decide) rfl w_1377 rfl rfl rfl rfl (fun H locs hU hS => ?_)
        refine lv_iconst (v := 1) hF.1 hF.2.1 dX12_terms_54 (by decide) ?_
        exact q_iret hF hr (by decide) hlocks hU hS dX12_terms_55 (k_X12_terms_r0 x y z b9_1 b20_2 b31_3)
      · refine lv_if_ne (tgt := 39) hF.1 hF.2.1 dX12_terms_34 (by decide) (fun h9 => absurd (by decide) h9) (fun _ => ?_)
        refine lv_iconst (v := 0) hF.1 hF.2.1 dX12_terms_37 (by decide) ?_
        exact q_iret hF hr (by decide) hlocks hU hS dX12_terms_38 (k_X12_terms_r1 x y z b9_1 b20_2 b31_3)
    · refine lv_if_eq (tgt := 37) hF.1 hF.2.1 dX12_terms_23 (by decide) (fun _ => ?_) (fun h9 => absurd (by decide) h9)
      refine lv_iconst (v := 0) hF.1 hF.2.1 dX12_terms_37 (by decide) ?_
      exact q_iret hF hr (by decide) hlocks hU hS dX12_terms_38 (k_X12_terms_r2 x y z b9_1 b20_2)
  · refine lv_if_eq (tgt := 37) hF.1 hF.2.1 dX12_terms_12 (by decide) (fun _ => ?_) (fun h9 => absurd (by decide) h9)
    refine lv_iconst (v := 0) hF.1 hF.2.1 dX12_terms_37 (by decide) ?_
    exact q_iret hF hr (by decide) hlocks hU hS dX12_terms_38 (k_X12_terms_r3 x y z b9_1)
theorem k_X12_rest_r0 (x : Int32) (y : Int32) (b10_1 : 0 ≤ x ∧ x ≤ 400) (b21_2 : 0 ≤ y ∧ y ≤ 198) : (((0 ≤ x ∧ x ≤ 400) ∧ (0 ≤ y ∧ y ≤ 198)) ∧ (1 : Int32) = 1) ∨ (¬ ((0 ≤ x ∧ x ≤ 400) ∧ (0 ≤ y ∧ y ≤ 198)) ∧ (1 : Int32) = 0) := by
  first | rfl | (simp only [Int32.lt_iff_toInt_lt, Int32.le_iff_toInt_le, ← Int32.toInt_inj, Int32.zero_add, Int32.add_zero] at *; omega) | (simp only [Int32.lt_iff_toInt_lt, Int32.le_iff_toInt_le, ← Int32.toInt_inj, Int32.zero_add, Int32.add_zero] at *; done) | (simp only [Int32.lt_iff_toInt_lt, Int32.le_iff_toInt_le, ← Int32.toInt_inj, Int32.zero_add, Int32.add_zero] at *; simp at *; omega) | (simp at *; omega) | (simp_all; done)
theorem k_X12_rest_r1 (x : Int32) (y : Int32) (b10_1 : 0 ≤ x ∧ x ≤ 400) (b21_2 : ¬ (0 ≤ y ∧ y ≤ 198)) : (((0 ≤ x ∧ x ≤ 400) ∧ (0 ≤ y ∧ y ≤ 198)) ∧ (0 : Int32) = 1) ∨ (¬ ((0 ≤ x ∧ x ≤ 400) ∧ (0 ≤ y ∧ y ≤ 198)) ∧ (0 : Int32) = 0) := by
  first | rfl | (simp only [Int32.lt_iff_toInt_lt, Int32.le_iff_toInt_le, ← Int32.toInt_inj, Int32.zero_add, Int32.add_zero] at *; omega) | (simp only [Int32.lt_iff_toInt_lt, Int32.le_iff_toInt_le, ← Int32.toInt_inj, Int32.zero_add, Int32.add_zero] at *; done) | (simp only [Int32.lt_iff_toInt_lt, Int32.le_iff_toInt_le, ← Int32.toInt_inj, Int32.zero_add, Int32.add_zero] at *; simp at *; omega) | (simp at *; omega) | (simp_all; done)
theorem k_X12_rest_r2 (x : Int32) (y : Int32) (b10_1 : ¬ (0 ≤ x ∧ x ≤ 400)) : (((0 ≤ x ∧ x ≤ 400) ∧ (0 ≤ y ∧ y ≤ 198)) ∧ (0 : Int32) = 1) ∨ (¬ ((0 ≤ x ∧ x ≤ 400) ∧ (0 ≤ y ∧ y ≤ 198)) ∧ (0 : Int32) = 0) := by
  first | rfl | (simp only [Int32.lt_iff_toInt_lt, Int32.le_iff_toInt_le, ← Int32.toInt_inj, Int32.zero_add, Int32.add_zero] at *; omega) | (simp only [Int32.lt_iff_toInt_lt, Int32.le_iff_toInt_le, ← Int32.toInt_inj, Int32.zero_add, Int32.add_zero] at *; done) | (simp only [Int32.lt_iff_toInt_lt, Int32.le_iff_toInt_le, ← Int32.toInt_inj, Int32.zero_add, Int32.add_zero] at *; simp at *; omega) | (simp at *; omega) | (simp_all; done)
set_option maxHeartbeats 400000 in
set_option maxRecDepth 100000 in
theorem k_X12_rest (l : Launch) (E : qE) (A : Nat → Prop) (u : qS) (x : Int32) (y : Int32) : Met l yX12_rest (uws yX12_rest cX12_rest 3 (some .boolean)) (qR 2 0 0) (qPc E A 1 u [.ref (E.2.2 1299), .int x, .int y]) (qQi E A 1 (fun r _ => (((0 ≤ x ∧ x ≤ 400) ∧ (0 ≤ y ∧ y ≤ 198)) ∧ r = 1) ∨ (¬ ((0 ≤ x ∧ x ≤ 400) ∧ (0 ≤ y ∧ y ≤ 198)) ∧ r = 0))) 0 0 A := by
  refine q_met (own := RX12) (f := 2) [.ref (E.2.2 1299), .int x, .int y] (by decide) (Nat.le_of_ble_eq_true rfl) rfl ?_
  intro p0 e0 s0 m0 bl0 me0 cd0 ls hF hr hlocks hU hS hA hl
  have hl : lv_has ls 3 [(0, .ref (E.2.2 1299)), (1, .int x), (2, .int y)] := hl
  refine lv_aload_n hF.1 hF.2.1 dX12_rest_0 rfl (lv_at hl 0 rfl) ?_
  refine lv_iconst (v := 0) hF.1 hF.2.1 dX12_rest_1 (by decide) ?_
  refine q_put hF hU hS dX12_rest_2 0 12 0 1200 1299 rfl rfl rfl rfl inX12 tyX12 tyX12_ok nmX12 (by decide) (by decide) rfl w_1333 rfl rfl rfl rfl (fun H locs hU hS => ?_)
  refine lv_iload_n hF.1 hF.2.1 dX12_rest_5 rfl (lv_at hl 1 rfl) ?_
  refine lv_iconst (v := 0) hF.1 hF.2.1 dX12_rest_6 (by decide) ?_
  refine lv_sipush (v := 400) hF.1 hF.2.1 dX12_rest_7 (by decide) ?_
  have hM9 := (k_X12_within l E A 1 (qsI u 1200 0) x 0 400)
  have hR9 := q_runS (l := l) (e := e0) (below := bl0) (meth := me0) (R := qR 2 0 0) (cells := 0) (slots := 0) (st0 := [.int 400, .int 0, .int x]) (rest := []) hF hU hS hA 3 hM9 w_1684 w_1685 w_107 w_1686 (by decide +kernel) ⟨Nat.le_of_ble_eq_true rfl, Nat.le_of_ble_eq_true rfl⟩ dX12_rest_10 rfl hl.1 rfl (Nat.le_of_ble_eq_true rfl) ⟨Nat.le_of_ble_eq_true rfl, Nat.le_of_ble_eq_true rfl⟩
  refine q_calli hR9 hU.2.2.2 hS (fun r u1 H locs hw hU hS => ?_)
  obtain ⟨hu1, hw⟩ := hw
  rw [hu1] at hU
  rcases hw with ⟨rfl, b10_1⟩ | ⟨rfl, b10_1⟩
  · refine lv_if_eq (tgt := 27) hF.1 hF.2.1 dX12_rest_13 (by decide) (fun h9 => absurd h9 (by decide)) (fun _ => ?_)
    refine lv_iload_n hF.1 hF.2.1 dX12_rest_16 rfl (lv_at hl 2 rfl) ?_
    refine lv_iconst (v := 0) hF.1 hF.2.1 dX12_rest_17 (by decide) ?_
    refine lv_sipush (v := 198) hF.1 hF.2.1 dX12_rest_18 (by decide) ?_
    have hM9 := (k_X12_within l E A 1 (qsI u 1200 0) y 0 198)
    have hR9 := q_runS (l := l) (e := e0) (below := bl0) (meth := me0) (R := qR 2 0 0) (cells := 0) (slots := 0) (st0 := [.int 198, .int 0, .int y]) (rest := []) hF hU hS hA 3 hM9 w_1684 w_1685 w_107 w_1686 (by decide +kernel) ⟨Nat.le_of_ble_eq_true rfl, Nat.le_of_ble_eq_true rfl⟩ dX12_rest_21 rfl hl.1 rfl (Nat.le_of_ble_eq_true rfl) ⟨Nat.le_of_ble_eq_true rfl, Nat.le_of_ble_eq_true rfl⟩
    refine q_calli hR9 hU.2.2.2 hS (fun r u1 H locs hw hU hS => ?_)
    obtain ⟨hu1, hw⟩ := hw
    rw [hu1] at hU
    rcases hw with ⟨rfl, b21_2⟩ | ⟨rfl, b21_2⟩
    · refine lv_if_ne (tgt := 29) hF.1 hF.2.1 dX12_rest_24 (by decide) (fun _ => ?_) (fun h9 => absurd h9 (by decide))
      refine lv_aload_n hF.1 hF.2.1 dX12_rest_29 rfl (lv_at hl 0 rfl) ?_
      refine lv_iload_n hF.1 hF.2.1 dX12_rest_30 rfl (lv_at hl 1 rfl) ?_
      refine q_put hF hU hS dX12_rest_31 0 12 45 1245 1299 rfl rfl rfl rfl inX12 tyX12 tyX12_ok nmX12 (by decide) (by decide) rfl w_1378 rfl rfl rfl rfl (fun H locs hU hS => ?_)
      refine lv_aload_n hF.1 hF.2.1 dX12_rest_34 rfl (lv_at hl 0 rfl) ?_
      refine lv_iload_n hF.1 hF.2.1 dX12_rest_35 rfl (lv_at hl 2 rfl) ?_
      refine q_put hF hU hS dX12_rest_36 0 12 46 1246 1299 rfl rfl rfl rfl inX12 tyX12 tyX12_ok nmX12 (by decide) (by decide) rfl w_1379 rfl rfl rfl rfl (fun H locs hU hS => ?_)
      refine lv_iconst (v := 1) hF.1 hF.2.1 dX12_rest_39 (by decide) ?_
      exact q_iret hF hr (by decide) hlocks hU hS dX12_rest_40 (k_X12_rest_r0 x y b10_1 b21_2)
    · refine lv_if_ne (tgt := 29) hF.1 hF.2.1 dX12_rest_24 (by decide) (fun h9 => absurd (by decide) h9) (fun _ => ?_)
      refine lv_iconst (v := 0) hF.1 hF.2.1 dX12_rest_27 (by decide) ?_
      exact q_iret hF hr (by decide) hlocks hU hS dX12_rest_28 (k_X12_rest_r1 x y b10_1 b21_2)
  · refine lv_if_eq (tgt := 27) hF.1 hF.2.1 dX12_rest_13 (by decide) (fun _ => ?_) (fun h9 => absurd (by decide) h9)
    refine lv_iconst (v := 0) hF.1 hF.2.1 dX12_rest_27 (by decide) ?_
    exact q_iret hF hr (by decide) hlocks hU hS dX12_rest_28 (k_X12_rest_r2 x y b10_1)
theorem k_X12_visit_r0 (a1 : Int32) (a2 : Int32) (a3 : Int32) (a4 : Int32) (a5 : Int32) (a6 : Int32) (a7 : Int32) : ((-1) : Int32) = (-1) := by
  first | rfl | (simp only [Int32.lt_iff_toInt_lt, Int32.le_iff_toInt_le, ← Int32.toInt_inj, Int32.zero_add, Int32.add_zero] at *; omega) | (simp only [Int32.lt_iff_toInt_lt, Int32.le_iff_toInt_le, ← Int32.toInt_inj, Int32.zero_add, Int32.add_zero] at *; done) | (simp only [Int32.lt_iff_toInt_lt, Int32.le_iff_toInt_le, ← Int32.toInt_inj, Int32.zero_add, Int32.add_zero] at *; simp at *; omega) | (simp at *; omega) | (simp_all; done)
set_option maxHeartbeats 400000 in
set_option maxRecDepth 100000 in
theorem k_X12_visit (l : Launch) (E : qE) (A : Nat → Prop) (u : qS) (a1 : Int32) (a2 : Int32) (a3 : Int32) (a4 : Int32) (a5 : Int32) (a6 : Int32) (a7 : Int32) (h_shops : u.1 1232 = 0) : Met l yX12_visit (uws yX12_visit cX12_visit 9 (some .int)) (qR 2 0 0) (qPc E A 1 u [.ref (E.2.2 1299), .int a1, .int a2, .int a3, .int a4, .int a5, .int a6, .int a7]) (qQi E A 1 (fun r _ => r = (-1))) 0 0 A := by
  refine q_met (own := RX12) (f := 2) [.ref (E.2.2 1299), .int a1, .int a2, .int a3, .int a4, .int a5, .int a6, .int a7] (by decide) (Nat.le_of_ble_eq_true rfl) rfl ?_
  intro p0 e0 s0 m0 bl0 me0 cd0 ls hF hr hlocks hU hS hA hl
  have hl : lv_has ls 9 [(0, .ref (E.2.2 1299)), (1, .int a1), (2, .int a2), (3, .int a3), (4, .int a4), (5, .int a5), (6, .int a6), (7, .int a7)] := hl
  refine lv_aload_n hF.1 hF.2.1 dX12_visit_0 rfl (lv_at hl 0 rfl) ?_
  refine lv_iconst (v := 0) hF.1 hF.2.1 dX12_visit_1 (by decide) ?_
  refine q_put hF hU hS dX12_visit_2 0 12 0 1200 1299 rfl rfl rfl rfl inX12 tyX12 tyX12_ok nmX12 (by decide) (by decide) rfl w_1333 rfl rfl rfl rfl (fun H locs hU hS => ?_)
  refine lv_aload_n hF.1 hF.2.1 dX12_visit_5 rfl (lv_at hl 0 rfl) ?_
  refine lv_iload_n hF.1 hF.2.1 dX12_visit_6 rfl (lv_at hl 1 rfl) ?_
  have hM9 := (k_X12_isShop l E A (qsI u 1200 0) a1 h_shops)
  have hR9 := q_runV (l := l) (e := e0) (below := bl0) (meth := me0) (R := qR 2 0 0) (cells := 0) (slots := 0) (st0 := [.int a1, .ref (E.2.2 1299)]) (rest := []) hF hU hS hA 1 0 12 1299 rfl rfl rfl hM9 w_1714 w_1716 w_68 w_107 w_1717 (by decide +kernel) ⟨Nat.le_of_ble_eq_true rfl, Nat.le_of_ble_eq_true rfl⟩ dX12_visit_7 rfl hl.1 rfl (Nat.le_of_ble_eq_true rfl) ⟨Nat.le_of_ble_eq_true rfl, Nat.le_of_ble_eq_true rfl⟩
  refine q_calli hR9 hU.2.2.2 hS (fun r u1 H locs hw hU hS => ?_)
  rw [hw.1] at hU
  refine q_topi hw.2 ?_
  refine lv_if_eq (tgt := 85) hF.1 hF.2.1 dX12_visit_10 (by decide) (fun _ => ?_) (fun h9 => absurd (by decide) h9)
  refine lv_iconst (v := 0) hF.1 hF.2.1 dX12_visit_85 (by decide) ?_
  refine lv_istore (lv' := [(8, .int 0), (0, .ref (E.2.2 1299)), (1, .int a1), (2, .int a2), (3, .int a3), (4, .int a4), (5, .int a5), (6, .int a6), (7, .int a7)]) hF.1 hF.2.1 dX12_visit_86 hl (by decide) rfl (fun ls hl => ?_)
  refine lv_iload hF.1 hF.2.1 dX12_visit_88 (lv_at hl 0 rfl) ?_
  refine lv_if_eq (tgt := 113) hF.1 hF.2.1 dX12_visit_90 (by decide) (fun _ => ?_) (fun h9 => absurd (by decide) h9)
  refine lv_iconst (v := (-1)) hF.1 hF.2.1 dX12_visit_113 (by decide) ?_
  exact q_iret hF hr rfl hlocks hU hS dX12_visit_114 (k_X12_visit_r0 a1 a2 a3 a4 a5 a6 a7)
theorem k_X12_appeal_r0 (x : Int32) (y : Int32) (c6_1 : (x : Int32) < 0) : (0 : Int32) = 0 := by
  first | rfl | (simp only [Int32.lt_iff_toInt_lt, Int32.le_iff_toInt_le, ← Int32.toInt_inj, Int32.zero_add, Int32.add_zero] at *; omega) | (simp only [Int32.lt_iff_toInt_lt, Int32.le_iff_toInt_le, ← Int32.toInt_inj, Int32.zero_add, Int32.add_zero] at *; done) | (simp only [Int32.lt_iff_toInt_lt, Int32.le_iff_toInt_le, ← Int32.toInt_inj, Int32.zero_add, Int32.add_zero] at *; simp at *; omega) | (simp at *; omega) | (simp_all; done)
theorem k_X12_appeal_r1 (x : Int32) (y : Int32) (c6_1 : ¬ (x : Int32) < 0) : (0 : Int32) = 0 := by
  first | rfl | (simp only [Int32.lt_iff_toInt_lt, Int32.le_iff_toInt_le, ← Int32.toInt_inj, Int32.zero_add, Int32.add_zero] at *; omega) | (simp only [Int32.lt_iff_toInt_lt, Int32.le_iff_toInt_le, ← Int32.toInt_inj, Int32.zero_add, Int32.add_zero] at *; done) | (simp only [Int32.lt_iff_toInt_lt, Int32.le_iff_toInt_le, ← Int32.toInt_inj, Int32.zero_add, Int32.add_zero] at *; simp at *; omega) | (simp at *; omega) | (simp_all; done)
set_option maxHeartbeats 400000 in
set_option maxRecDepth 100000 in
theorem k_X12_appeal (l : Launch) (E : qE) (A : Nat → Prop) (u : qS) (x : Int32) (y : Int32) (h_visits : u.1 1247 = 0) : Met l yX12_appeal (uws yX12_appeal cX12_appeal 3 (some .boolean)) (qR 2 0 0) (qPc E A 1 u [.ref (E.2.2 1299), .int x, .int y]) (qQi E A 1 (fun r _ => r = 0)) 0 0 A := by
  refine q_met (own := RX12) (f := 2) [.ref (E.2.2 1299), .int x, .int y] (by decide) (Nat.le_of_ble_eq_true rfl) rfl ?_
  intro p0 e0 s0 m0 bl0 me0 cd0 ls hF hr hlocks hU hS hA hl
  have hl : lv_has ls 3 [(0, .ref (E.2.2 1299)), (1, .int x), (2, .int y)] := hl
  refine lv_aload_n hF.1 hF.2.1 dX12_appeal_0 rfl (lv_at hl 0 rfl) ?_
  refine lv_iconst (v := 0) hF.1 hF.2.1 dX12_appeal_1 (by decide) ?_
  refine q_put hF hU hS dX12_appeal_2 0 12 0 1200 1299 rfl rfl rfl rfl inX12 tyX12 tyX12_ok nmX12 (by decide) (by decide) rfl w_1333 rfl rfl rfl rfl (fun H locs hU hS => ?_)
  refine lv_iload_n hF.1 hF.2.1 dX12_appeal_5 rfl (lv_at hl 1 rfl) ?_
  refine lv_if_lt (tgt := 66) hF.1 hF.2.1 dX12_appeal_6 (by decide) (fun c6_1 => ?_) (fun c6_1 => ?_)
  · refine lv_iconst (v := 0) hF.1 hF.2.1 dX12_appeal_66 (by decide) ?_
    exact q_iret hF hr (by decide) hlocks hU hS dX12_appeal_67 (k_X12_appeal_r0 x y c6_1)
  · refine lv_iload_n hF.1 hF.2.1 dX12_appeal_9 rfl (lv_at hl 1 rfl) ?_
    refine lv_aload_n hF.1 hF.2.1 dX12_appeal_10 rfl (lv_at hl 0 rfl) ?_
    refine q_get (v := .int 0) hF hU dX12_appeal_11 0 12 47 1247 1299 rfl rfl rfl rfl inX12 (by decide) (by decide) w_1380 rfl (congrArg Value.int h_visits) ?_
    refine lv_icmp_ge (tgt := 66) hF.1 hF.2.1 dX12_appeal_14 (by decide) (fun _ => ?_) (fun h9 => absurd (by first | exact c6_1 | exact Int32.not_lt.mp c6_1 | exact Int32.not_le.mp c6_1 | exact Int32.not_lt.mpr c6_1 | exact Int32.not_le.mpr c6_1) h9)
    refine lv_iconst (v := 0) hF.1 hF.2.1 dX12_appeal_66 (by decide) ?_
    exact q_iret hF hr (by decide) hlocks hU hS dX12_appeal_67 (k_X12_appeal_r1 x y c6_1)
set_option maxHeartbeats 400000 in
set_option maxRecDepth 100000 in
theorem k_X12_findAll (l : Launch) (E : qE) (A : Nat → Prop) (u : qS) (h_visits : u.1 1247 = 0) : Met l yX12_findAll (uws yX12_findAll cX12_findAll 4 none) (qR 3 0 0) (qPc E A 1 u [.ref (E.2.2 1299)]) (qQv E A 1 (fun u1 => u1 = qsI (qsI u 1260 0) 1270 0)) 0 0 A := by
  refine q_met (own := RX12) (f := 3) [.ref (E.2.2 1299)] (by decide) (Nat.le_of_ble_eq_true rfl) rfl ?_
  intro p0 e0 s0 m0 bl0 me0 cd0 ls hF hr hlocks hU hS hA hl
  have hl : lv_has ls 4 [(0, .ref (E.2.2 1299))] := hl
  refine lv_aload_n hF.1 hF.2.1 dX12_findAll_0 rfl (lv_at hl 0 rfl) ?_
  refine lv_iconst (v := 0) hF.1 hF.2.1 dX12_findAll_1 (by decide) ?_
  refine q_put hF hU hS dX12_findAll_2 0 12 60 1260 1299 rfl rfl rfl rfl inX12 tyX12 tyX12_ok nmX12 (by decide) (by decide) rfl w_1393 rfl rfl rfl rfl (fun H locs hU hS => ?_)
  refine lv_iconst (v := 0) hF.1 hF.2.1 dX12_findAll_5 (by decide) ?_
  refine lv_istore_n (lv' := [(1, .int 0), (0, .ref (E.2.2 1299))]) hF.1 hF.2.1 dX12_findAll_6 rfl hl (by decide) rfl (fun ls hl => ?_)
  refine lv_iload_n hF.1 hF.2.1 dX12_findAll_7 rfl (lv_at hl 0 rfl) ?_
  refine lv_aload_n hF.1 hF.2.1 dX12_findAll_8 rfl (lv_at hl 1 rfl) ?_
  refine q_get (v := .int 0) hF hU dX12_findAll_9 0 12 47 1247 1299 rfl rfl rfl rfl inX12 (by decide) (by decide) w_1380 rfl (congrArg Value.int h_visits) ?_
  refine lv_icmp_ge (tgt := 91) hF.1 hF.2.1 dX12_findAll_12 (by decide) (fun _ => ?_) (fun h9 => absurd (by decide) h9)
  refine lv_iconst (v := 0) hF.1 hF.2.1 dX12_findAll_91 (by decide) ?_
  refine lv_istore_n (lv' := [(1, .int 0), (0, .ref (E.2.2 1299))]) hF.1 hF.2.1 dX12_findAll_92 rfl hl (by decide) rfl (fun ls hl => ?_)
  refine lv_iload_n hF.1 hF.2.1 dX12_findAll_93 rfl (lv_at hl 0 rfl) ?_
  refine lv_aload_n hF.1 hF.2.1 dX12_findAll_94 rfl (lv_at hl 1 rfl) ?_
  refine q_get (v := .int 0) hF hU dX12_findAll_95 0 12 60 1260 1299 rfl rfl rfl rfl inX12 (by decide) (by decide) w_1393 rfl rfl ?_
  refine lv_icmp_ge (tgt := 198) hF.1 hF.2.1 dX12_findAll_98 (by decide) (fun _ => ?_) (fun h9 => absurd (by decide) h9)
  refine lv_aload_n hF.1 hF.2.1 dX12_findAll_198 rfl (lv_at hl 1 rfl) ?_
  refine lv_iconst (v := 0) hF.1 hF.2.1 dX12_findAll_199 (by decide) ?_
  refine q_put hF hU hS dX12_findAll_200 0 12 70 1270 1299 rfl rfl rfl rfl inX12 tyX12 tyX12_ok nmX12 (by decide) (by decide) rfl w_1403 rfl rfl rfl rfl (fun H locs hU hS => ?_)
  refine lv_iconst (v := 0) hF.1 hF.2.1 dX12_findAll_203 (by decide) ?_
  refine lv_istore_n (lv' := [(1, .int 0), (0, .ref (E.2.2 1299))]) hF.1 hF.2.1 dX12_findAll_204 rfl hl (by decide) rfl (fun ls hl => ?_)
  refine lv_iload_n hF.1 hF.2.1 dX12_findAll_205 rfl (lv_at hl 0 rfl) ?_
  refine lv_aload_n hF.1 hF.2.1 dX12_findAll_206 rfl (lv_at hl 1 rfl) ?_
  refine q_get (v := .int 0) hF hU dX12_findAll_207 0 12 60 1260 1299 rfl rfl rfl rfl inX12 (by decide) (by decide) w_1393 rfl rfl ?_
  refine lv_icmp_ge (tgt := 337) hF.1 hF.2.1 dX12_findAll_210 (by decide) (fun _ => ?_) (fun h9 => absurd (by decide) h9)
  exact q_vret hF hr hlocks hU hS dX12_findAll_337 (rfl)
set_option maxHeartbeats 400000 in
set_option maxRecDepth 100000 in
theorem k_X12_look (l : Launch) (E : qE) (A : Nat → Prop) (u : qS) (x : Int32) (y : Int32) (h_visits : u.1 1247 = 0) : Met l yX12_look (uws yX12_look cX12_look 3 (some .int)) (qR 5 0 0) (qPc E A 1 u [.ref (E.2.2 1299), .int x, .int y]) (qQi E A 1 (fun r u1 => u1.1 1200 = 1)) 0 0 A := by
  refine q_met (own := RX12) (f := 5) [.ref (E.2.2 1299), .int x, .int y] (by decide) (Nat.le_of_ble_eq_true rfl) rfl ?_
  intro p0 e0 s0 m0 bl0 me0 cd0 ls hF hr hlocks hU hS hA hl
  have hl : lv_has ls 3 [(0, .ref (E.2.2 1299)), (1, .int x), (2, .int y)] := hl
  refine lv_aload_n hF.1 hF.2.1 dX12_look_0 rfl (lv_at hl 0 rfl) ?_
  refine lv_aload_n hF.1 hF.2.1 dX12_look_1 rfl (lv_at hl 0 rfl) ?_
  refine lv_iload_n hF.1 hF.2.1 dX12_look_2 rfl (lv_at hl 1 rfl) ?_
  have hM9 := (k_X12_isSeen l E A u x h_visits)
  have hR9 := q_runV (l := l) (e := e0) (below := bl0) (meth := me0) (R := qR 5 0 0) (cells := 0) (slots := 0) (st0 := [.int x, .ref (E.2.2 1299), .ref (E.2.2 1299)]) (rest := [.ref (E.2.2 1299)]) hF hU hS hA 1 0 12 1299 rfl rfl rfl hM9 w_1734 w_1736 w_71 w_107 w_1737 (by decide +kernel) ⟨Nat.le_of_ble_eq_true rfl, Nat.le_of_ble_eq_true rfl⟩ dX12_look_3 rfl hl.1 rfl (Nat.le_of_ble_eq_true rfl) ⟨Nat.le_of_ble_eq_true rfl, Nat.le_of_ble_eq_true rfl⟩
  refine q_calli hR9 hU.2.2.2 hS (fun r u1 H locs hw hU hS => ?_)
  rw [hw.1] at hU
  refine q_topi hw.2 ?_
  refine lv_if_eq (tgt := 22) hF.1 hF.2.1 dX12_look_6 (by decide) (fun _ => ?_) (fun h9 => absurd (by decide) h9)
  refine lv_iconst (v := 1) hF.1 hF.2.1 dX12_look_22 (by decide) ?_
  refine q_put hF hU hS dX12_look_23 0 12 0 1200 1299 rfl rfl rfl rfl inX12 tyX12 tyX12_ok nmX12 (by decide) (by decide) rfl w_1333 rfl rfl rfl rfl (fun H locs hU hS => ?_)
  refine lv_aload_n hF.1 hF.2.1 dX12_look_26 rfl (lv_at hl 0 rfl) ?_
  refine q_get (v := .int 1) hF hU dX12_look_27 0 12 0 1200 1299 rfl rfl rfl rfl inX12 (by decide) (by decide) w_1333 rfl rfl ?_
  refine lv_if_le (tgt := 35) hF.1 hF.2.1 dX12_look_30 (by decide) (fun h9 => absurd h9 (by decide)) (fun _ => ?_)
  refine lv_iconst (v := 0) hF.1 hF.2.1 dX12_look_33 (by decide) ?_
  exact q_iret hF hr rfl hlocks hU hS dX12_look_34 (rfl)
set_option maxHeartbeats 400000 in
set_option maxRecDepth 100000 in
theorem k_X12_fair (l : Launch) (E : qE) (A : Nat → Prop) (u : qS) (x : Int32) (h_visits : u.1 1247 = 0) : Met l yX12_fair (uws yX12_fair cX12_fair 2 (some .int)) (qR 5 0 0) (qPc E A 1 u [.ref (E.2.2 1299), .int x]) (qQi E A 1 (fun r u1 => u1.1 1200 = 1)) 0 0 A := by
  refine q_met (own := RX12) (f := 5) [.ref (E.2.2 1299), .int x] (by decide) (Nat.le_of_ble_eq_true rfl) rfl ?_
  intro p0 e0 s0 m0 bl0 me0 cd0 ls hF hr hlocks hU hS hA hl
  have hl : lv_has ls 2 [(0, .ref (E.2.2 1299)), (1, .int x)] := hl
  refine lv_aload_n hF.1 hF.2.1 dX12_fair_0 rfl (lv_at hl 0 rfl) ?_
  refine lv_aload_n hF.1 hF.2.1 dX12_fair_1 rfl (lv_at hl 0 rfl) ?_
  refine lv_iload_n hF.1 hF.2.1 dX12_fair_2 rfl (lv_at hl 1 rfl) ?_
  have hM9 := (k_X12_isSeen l E A u x h_visits)
  have hR9 := q_runV (l := l) (e := e0) (below := bl0) (meth := me0) (R := qR 5 0 0) (cells := 0) (slots := 0) (st0 := [.int x, .ref (E.2.2 1299), .ref (E.2.2 1299)]) (rest := [.ref (E.2.2 1299)]) hF hU hS hA 1 0 12 1299 rfl rfl rfl hM9 w_1734 w_1736 w_71 w_107 w_1737 (by decide +kernel) ⟨Nat.le_of_ble_eq_true rfl, Nat.le_of_ble_eq_true rfl⟩ dX12_fair_3 rfl hl.1 rfl (Nat.le_of_ble_eq_true rfl) ⟨Nat.le_of_ble_eq_true rfl, Nat.le_of_ble_eq_true rfl⟩
  refine q_calli hR9 hU.2.2.2 hS (fun r u1 H locs hw hU hS => ?_)
  rw [hw.1] at hU
  refine q_topi hw.2 ?_
  refine lv_if_eq (tgt := 13) hF.1 hF.2.1 dX12_fair_6 (by decide) (fun _ => ?_) (fun h9 => absurd (by decide) h9)
  refine lv_iconst (v := 1) hF.1 hF.2.1 dX12_fair_13 (by decide) ?_
  refine q_put hF hU hS dX12_fair_14 0 12 0 1200 1299 rfl rfl rfl rfl inX12 tyX12 tyX12_ok nmX12 (by decide) (by decide) rfl w_1333 rfl rfl rfl rfl (fun H locs hU hS => ?_)
  refine lv_aload_n hF.1 hF.2.1 dX12_fair_17 rfl (lv_at hl 0 rfl) ?_
  refine q_get (v := .int 1) hF hU dX12_fair_18 0 12 0 1200 1299 rfl rfl rfl rfl inX12 (by decide) (by decide) w_1333 rfl rfl ?_
  refine lv_if_le (tgt := 26) hF.1 hF.2.1 dX12_fair_21 (by decide) (fun h9 => absurd h9 (by decide)) (fun _ => ?_)
  refine lv_iconst (v := 0) hF.1 hF.2.1 dX12_fair_24 (by decide) ?_
  exact q_iret hF hr rfl hlocks hU hS dX12_fair_25 (rfl)
set_option maxHeartbeats 400000 in
set_option maxRecDepth 100000 in
theorem k_X12_lean (l : Launch) (E : qE) (A : Nat → Prop) (u : qS) (x : Int32) (h_buyers : u.1 1239 = 0) : Met l yX12_lean (uws yX12_lean cX12_lean 2 (some .int)) (qR 5 0 0) (qPc E A 1 u [.ref (E.2.2 1299), .int x]) (qQi E A 1 (fun r u1 => u1.1 1200 = 1)) 0 0 A := by
  refine q_met (own := RX12) (f := 5) [.ref (E.2.2 1299), .int x] (by decide) (Nat.le_of_ble_eq_true rfl) rfl ?_
  intro p0 e0 s0 m0 bl0 me0 cd0 ls hF hr hlocks hU hS hA hl
  have hl : lv_has ls 2 [(0, .ref (E.2.2 1299)), (1, .int x)] := hl
  refine lv_aload_n hF.1 hF.2.1 dX12_lean_0 rfl (lv_at hl 0 rfl) ?_
  refine lv_iconst (v := 1) hF.1 hF.2.1 dX12_lean_1 (by decide) ?_
  refine q_put hF hU hS dX12_lean_2 0 12 0 1200 1299 rfl rfl rfl rfl inX12 tyX12 tyX12_ok nmX12 (by decide) (by decide) rfl w_1333 rfl rfl rfl rfl (fun H locs hU hS => ?_)
  refine lv_aload_n hF.1 hF.2.1 dX12_lean_5 rfl (lv_at hl 0 rfl) ?_
  refine lv_iload_n hF.1 hF.2.1 dX12_lean_6 rfl (lv_at hl 1 rfl) ?_
  have hM9 := (k_X12_isBuyer l E A (qsI u 1200 1) x h_buyers)
  have hR9 := q_runV (l := l) (e := e0) (below := bl0) (meth := me0) (R := qR 5 0 0) (cells := 0) (slots := 0) (st0 := [.int x, .ref (E.2.2 1299)]) (rest := []) hF hU hS hA 1 0 12 1299 rfl rfl rfl hM9 w_1718 w_1720 w_69 w_107 w_1721 (by decide +kernel) ⟨Nat.le_of_ble_eq_true rfl, Nat.le_of_ble_eq_true rfl⟩ dX12_lean_7 rfl hl.1 rfl (Nat.le_of_ble_eq_true rfl) ⟨Nat.le_of_ble_eq_true rfl, Nat.le_of_ble_eq_true rfl⟩
  refine q_calli hR9 hU.2.2.2 hS (fun r u1 H locs hw hU hS => ?_)
  rw [hw.1] at hU
  refine q_topi hw.2 ?_
  refine lv_if_ne (tgt := 15) hF.1 hF.2.1 dX12_lean_10 (by decide) (fun h9 => absurd (by decide) h9) (fun _ => ?_)
  refine lv_iconst (v := 0) hF.1 hF.2.1 dX12_lean_13 (by decide) ?_
  exact q_iret hF hr rfl hlocks hU hS dX12_lean_14 (rfl)
theorem k_X12_hasMean_r0 (x : Int32) (y : Int32) (z : Int32) : (0 : Int32) = 0 := by
  first | rfl | (simp only [Int32.lt_iff_toInt_lt, Int32.le_iff_toInt_le, ← Int32.toInt_inj, Int32.zero_add, Int32.add_zero] at *; omega) | (simp only [Int32.lt_iff_toInt_lt, Int32.le_iff_toInt_le, ← Int32.toInt_inj, Int32.zero_add, Int32.add_zero] at *; done) | (simp only [Int32.lt_iff_toInt_lt, Int32.le_iff_toInt_le, ← Int32.toInt_inj, Int32.zero_add, Int32.add_zero] at *; simp at *; omega) | (simp at *; omega) | (simp_all; done)
set_option maxHeartbeats 400000 in
set_option maxRecDepth 100000 in
theorem k_X12_hasMean (l : Launch) (E : qE) (A : Nat → Prop) (u : qS) (x : Int32) (y : Int32) (z : Int32) (h_shops : u.1 1232 = 0) : Met l yX12_hasMean (uws yX12_hasMean cX12_hasMean 4 (some .boolean)) (qR 4 0 0) (qPc E A 1 u [.ref (E.2.2 1299), .int x, .int y, .int z]) (qQi E A 1 (fun r u1 => u1 = u ∧ r = 0)) 0 0 A := by
  refine q_met (own := RX12) (f := 4) [.ref (E.2.2 1299), .int x, .int y, .int z] (by decide) (Nat.le_of_ble_eq_true rfl) rfl ?_
  intro p0 e0 s0 m0 bl0 me0 cd0 ls hF hr hlocks hU hS hA hl
  have hl : lv_has ls 4 [(0, .ref (E.2.2 1299)), (1, .int x), (2, .int y), (3, .int z)] := hl
  refine lv_aload_n hF.1 hF.2.1 dX12_hasMean_0 rfl (lv_at hl 0 rfl) ?_
  refine lv_iload_n hF.1 hF.2.1 dX12_hasMean_1 rfl (lv_at hl 1 rfl) ?_
  have hM9 := (k_X12_isShop l E A u x h_shops)
  have hR9 := q_runV (l := l) (e := e0) (below := bl0) (meth := me0) (R := qR 4 0 0) (cells := 0) (slots := 0) (st0 := [.int x, .ref (E.2.2 1299)]) (rest := []) hF hU hS hA 1 0 12 1299 rfl rfl rfl hM9 w_1714 w_1716 w_68 w_107 w_1717 (by decide +kernel) ⟨Nat.le_of_ble_eq_true rfl, Nat.le_of_ble_eq_true rfl⟩ dX12_hasMean_2 rfl hl.1 rfl (Nat.le_of_ble_eq_true rfl) ⟨Nat.le_of_ble_eq_true rfl, Nat.le_of_ble_eq_true rfl⟩
  refine q_calli hR9 hU.2.2.2 hS (fun r u1 H locs hw hU hS => ?_)
  rw [hw.1] at hU
  refine q_topi hw.2 ?_
  refine lv_if_eq (tgt := 16) hF.1 hF.2.1 dX12_hasMean_5 (by decide) (fun _ => ?_) (fun h9 => absurd (by decide) h9)
  refine lv_iconst (v := 0) hF.1 hF.2.1 dX12_hasMean_16 (by decide) ?_
  exact q_iret hF hr (by decide) hlocks hU hS dX12_hasMean_17 (⟨rfl, k_X12_hasMean_r0 x y z⟩)
set_option maxHeartbeats 400000 in
set_option maxRecDepth 100000 in
theorem k_X12_mean (l : Launch) (E : qE) (A : Nat → Prop) (u : qS) (x : Int32) (y : Int32) (z : Int32) (h_shops : u.1 1232 = 0) : Met l yX12_mean (uws yX12_mean cX12_mean 4 (some .int)) (qR 5 0 0) (qPc E A 1 u [.ref (E.2.2 1299), .int x, .int y, .int z]) (qQi E A 1 (fun r u1 => u1.1 1200 = 1)) 0 0 A := by
  refine q_met (own := RX12) (f := 5) [.ref (E.2.2 1299), .int x, .int y, .int z] (by decide) (Nat.le_of_ble_eq_true rfl) rfl ?_
  intro p0 e0 s0 m0 bl0 me0 cd0 ls hF hr hlocks hU hS hA hl
  have hl : lv_has ls 4 [(0, .ref (E.2.2 1299)), (1, .int x), (2, .int y), (3, .int z)] := hl
  refine lv_aload_n hF.1 hF.2.1 dX12_mean_0 rfl (lv_at hl 0 rfl) ?_
  refine lv_aload_n hF.1 hF.2.1 dX12_mean_1 rfl (lv_at hl 0 rfl) ?_
  refine lv_iload_n hF.1 hF.2.1 dX12_mean_2 rfl (lv_at hl 1 rfl) ?_
  refine lv_iload_n hF.1 hF.2.1 dX12_mean_3 rfl (lv_at hl 2 rfl) ?_
  refine lv_iload_n hF.1 hF.2.1 dX12_mean_4 rfl (lv_at hl 3 rfl) ?_
  have hM9 := (k_X12_hasMean l E A u x y z h_shops)
  have hR9 := q_runV (l := l) (e := e0) (below := bl0) (meth := me0) (R := qR 5 0 0) (cells := 0) (slots := 0) (st0 := [.int z, .int y, .int x, .ref (E.2.2 1299), .ref (E.2.2 1299)]) (rest := [.ref (E.2.2 1299)]) hF hU hS hA 3 0 12 1299 rfl rfl rfl hM9 w_1845 w_1847 w_89 w_107 w_1848 (by decide +kernel) ⟨Nat.le_of_ble_eq_true rfl, Nat.le_of_ble_eq_true rfl⟩ dX12_mean_5 rfl hl.1 rfl (Nat.le_of_ble_eq_true rfl) ⟨Nat.le_of_ble_eq_true rfl, Nat.le_of_ble_eq_true rfl⟩
  refine q_calli hR9 hU.2.2.2 hS (fun r u1 H locs hw hU hS => ?_)
  rw [hw.1] at hU
  refine q_topi hw.2 ?_
  refine lv_if_eq (tgt := 15) hF.1 hF.2.1 dX12_mean_8 (by decide) (fun _ => ?_) (fun h9 => absurd (by decide) h9)
  refine lv_iconst (v := 1) hF.1 hF.2.1 dX12_mean_15 (by decide) ?_
  refine q_put hF hU hS dX12_mean_16 0 12 0 1200 1299 rfl rfl rfl rfl inX12 tyX12 tyX12_ok nmX12 (by decide) (by decide) rfl w_1333 rfl rfl rfl rfl (fun H locs hU hS => ?_)
  refine lv_aload_n hF.1 hF.2.1 dX12_mean_19 rfl (lv_at hl 0 rfl) ?_
  refine q_get (v := .int 1) hF hU dX12_mean_20 0 12 0 1200 1299 rfl rfl rfl rfl inX12 (by decide) (by decide) w_1333 rfl rfl ?_
  refine lv_if_le (tgt := 30) hF.1 hF.2.1 dX12_mean_23 (by decide) (fun h9 => absurd h9 (by decide)) (fun _ => ?_)
  refine lv_iconst (v := 0) hF.1 hF.2.1 dX12_mean_26 (by decide) ?_
  refine lv_goto (tgt := 36) hF.1 hF.2.1 dX12_mean_27 (by decide) ?_
  exact q_iret hF hr rfl hlocks hU hS dX12_mean_36 (rfl)
theorem k_X12_fewest_r0 (x : Int32) (y : Int32) : ((-1) : Int32) = (-1) := by
  first | rfl | (simp only [Int32.lt_iff_toInt_lt, Int32.le_iff_toInt_le, ← Int32.toInt_inj, Int32.zero_add, Int32.add_zero] at *; omega) | (simp only [Int32.lt_iff_toInt_lt, Int32.le_iff_toInt_le, ← Int32.toInt_inj, Int32.zero_add, Int32.add_zero] at *; done) | (simp only [Int32.lt_iff_toInt_lt, Int32.le_iff_toInt_le, ← Int32.toInt_inj, Int32.zero_add, Int32.add_zero] at *; simp at *; omega) | (simp at *; omega) | (simp_all; done)
set_option maxHeartbeats 400000 in
set_option maxRecDepth 100000 in
theorem k_X12_fewest (l : Launch) (E : qE) (A : Nat → Prop) (u : qS) (x : Int32) (y : Int32) (h_buyers : u.1 1239 = 0) : Met l yX12_fewest (uws yX12_fewest cX12_fewest 3 (some .int)) (qR 6 0 0) (qPc E A 1 u [.ref (E.2.2 1299), .int x, .int y]) (qQi E A 1 (fun r _ => r = (-1))) 0 0 A := by
  refine q_met (own := RX12) (f := 6) [.ref (E.2.2 1299), .int x, .int y] (by decide) (Nat.le_of_ble_eq_true rfl) rfl ?_
  intro p0 e0 s0 m0 bl0 me0 cd0 ls hF hr hlocks hU hS hA hl
  have hl : lv_has ls 3 [(0, .ref (E.2.2 1299)), (1, .int x), (2, .int y)] := hl
  refine lv_aload_n hF.1 hF.2.1 dX12_fewest_0 rfl (lv_at hl 0 rfl) ?_
  refine lv_iconst (v := 0) hF.1 hF.2.1 dX12_fewest_1 (by decide) ?_
  refine q_put hF hU hS dX12_fewest_2 0 12 0 1200 1299 rfl rfl rfl rfl inX12 tyX12 tyX12_ok nmX12 (by decide) (by decide) rfl w_1333 rfl rfl rfl rfl (fun H locs hU hS => ?_)
  refine lv_aload_n hF.1 hF.2.1 dX12_fewest_5 rfl (lv_at hl 0 rfl) ?_
  refine lv_iload_n hF.1 hF.2.1 dX12_fewest_6 rfl (lv_at hl 1 rfl) ?_
  have hM9 := (k_X12_isBuyer l E A (qsI u 1200 0) x h_buyers)
  have hR9 := q_runV (l := l) (e := e0) (below := bl0) (meth := me0) (R := qR 6 0 0) (cells := 0) (slots := 0) (st0 := [.int x, .ref (E.2.2 1299)]) (rest := []) hF hU hS hA 1 0 12 1299 rfl rfl rfl hM9 w_1718 w_1720 w_69 w_107 w_1721 (by decide +kernel) ⟨Nat.le_of_ble_eq_true rfl, Nat.le_of_ble_eq_true rfl⟩ dX12_fewest_7 rfl hl.1 rfl (Nat.le_of_ble_eq_true rfl) ⟨Nat.le_of_ble_eq_true rfl, Nat.le_of_ble_eq_true rfl⟩
  refine q_calli hR9 hU.2.2.2 hS (fun r u1 H locs hw hU hS => ?_)
  rw [hw.1] at hU
  refine q_topi hw.2 ?_
  refine lv_if_eq (tgt := 20) hF.1 hF.2.1 dX12_fewest_10 (by decide) (fun _ => ?_) (fun h9 => absurd (by decide) h9)
  refine lv_iconst (v := (-1)) hF.1 hF.2.1 dX12_fewest_20 (by decide) ?_
  exact q_iret hF hr rfl hlocks hU hS dX12_fewest_21 (k_X12_fewest_r0 x y)
theorem k_X12_set_r0 (x : Int32) (y : Int32) (z : Int32) : ((-1) : Int32) = (-1) := by
  first | rfl | (simp only [Int32.lt_iff_toInt_lt, Int32.le_iff_toInt_le, ← Int32.toInt_inj, Int32.zero_add, Int32.add_zero] at *; omega) | (simp only [Int32.lt_iff_toInt_lt, Int32.le_iff_toInt_le, ← Int32.toInt_inj, Int32.zero_add, Int32.add_zero] at *; done) | (simp only [Int32.lt_iff_toInt_lt, Int32.le_iff_toInt_le, ← Int32.toInt_inj, Int32.zero_add, Int32.add_zero] at *; simp at *; omega) | (simp at *; omega) | (simp_all; done)
set_option maxHeartbeats 400000 in
set_option maxRecDepth 100000 in
theorem k_X12_set (l : Launch) (E : qE) (A : Nat → Prop) (u : qS) (x : Int32) (y : Int32) (z : Int32) (h_buyers : u.1 1239 = 0) : Met l yX12_set (uws yX12_set cX12_set 6 (some .int)) (qR 6 0 0) (qPc E A 1 u [.ref (E.2.2 1299), .int x, .int y, .int z]) (qQi E A 1 (fun r _ => r = (-1))) 0 0 A := by
  refine q_met (own := RX12) (f := 6) [.ref (E.2.2 1299), .int x, .int y, .int z] (by decide) (Nat.le_of_ble_eq_true rfl) rfl ?_
  intro p0 e0 s0 m0 bl0 me0 cd0 ls hF hr hlocks hU hS hA hl
  have hl : lv_has ls 6 [(0, .ref (E.2.2 1299)), (1, .int x), (2, .int y), (3, .int z)] := hl
  refine lv_aload_n hF.1 hF.2.1 dX12_set_0 rfl (lv_at hl 0 rfl) ?_
  refine lv_iconst (v := 0) hF.1 hF.2.1 dX12_set_1 (by decide) ?_
  refine q_put hF hU hS dX12_set_2 0 12 0 1200 1299 rfl rfl rfl rfl inX12 tyX12 tyX12_ok nmX12 (by decide) (by decide) rfl w_1333 rfl rfl rfl rfl (fun H locs hU hS => ?_)
  refine lv_aload_n hF.1 hF.2.1 dX12_set_5 rfl (lv_at hl 0 rfl) ?_
  refine lv_iload_n hF.1 hF.2.1 dX12_set_6 rfl (lv_at hl 1 rfl) ?_
  have hM9 := (k_X12_isBuyer l E A (qsI u 1200 0) x h_buyers)
  have hR9 := q_runV (l := l) (e := e0) (below := bl0) (meth := me0) (R := qR 6 0 0) (cells := 0) (slots := 0) (st0 := [.int x, .ref (E.2.2 1299)]) (rest := []) hF hU hS hA 1 0 12 1299 rfl rfl rfl hM9 w_1718 w_1720 w_69 w_107 w_1721 (by decide +kernel) ⟨Nat.le_of_ble_eq_true rfl, Nat.le_of_ble_eq_true rfl⟩ dX12_set_7 rfl hl.1 rfl (Nat.le_of_ble_eq_true rfl) ⟨Nat.le_of_ble_eq_true rfl, Nat.le_of_ble_eq_true rfl⟩
  refine q_calli hR9 hU.2.2.2 hS (fun r u1 H locs hw hU hS => ?_)
  rw [hw.1] at hU
  refine q_topi hw.2 ?_
  refine lv_if_eq (tgt := 24) hF.1 hF.2.1 dX12_set_10 (by decide) (fun _ => ?_) (fun h9 => absurd (by decide) h9)
  refine lv_iconst (v := (-1)) hF.1 hF.2.1 dX12_set_24 (by decide) ?_
  exact q_iret hF hr rfl hlocks hU hS dX12_set_25 (k_X12_set_r0 x y z)
theorem k_X12_meetings_r0 (x : Int32) (y : Int32) : ((-1) : Int32) = (-1) := by
  first | rfl | (simp only [Int32.lt_iff_toInt_lt, Int32.le_iff_toInt_le, ← Int32.toInt_inj, Int32.zero_add, Int32.add_zero] at *; omega) | (simp only [Int32.lt_iff_toInt_lt, Int32.le_iff_toInt_le, ← Int32.toInt_inj, Int32.zero_add, Int32.add_zero] at *; done) | (simp only [Int32.lt_iff_toInt_lt, Int32.le_iff_toInt_le, ← Int32.toInt_inj, Int32.zero_add, Int32.add_zero] at *; simp at *; omega) | (simp at *; omega) | (simp_all; done)
set_option maxHeartbeats 400000 in
set_option maxRecDepth 100000 in
theorem k_X12_meetings (l : Launch) (E : qE) (A : Nat → Prop) (u : qS) (x : Int32) (y : Int32) (h_buyers : u.1 1239 = 0) : Met l yX12_meetings (uws yX12_meetings cX12_meetings 6 (some .int)) (qR 6 0 0) (qPc E A 1 u [.ref (E.2.2 1299), .int x, .int y]) (qQi E A 1 (fun r _ => r = (-1))) 0 0 A := by
  refine q_met (own := RX12) (f := 6) [.ref (E.2.2 1299), .int x, .int y] (by decide) (Nat.le_of_ble_eq_true rfl) rfl ?_
  intro p0 e0 s0 m0 bl0 me0 cd0 ls hF hr hlocks hU hS hA hl
  have hl : lv_has ls 6 [(0, .ref (E.2.2 1299)), (1, .int x), (2, .int y)] := hl
  refine lv_aload_n hF.1 hF.2.1 dX12_meetings_0 rfl (lv_at hl 0 rfl) ?_
  refine lv_iconst (v := 0) hF.1 hF.2.1 dX12_meetings_1 (by decide) ?_
  refine q_put hF hU hS dX12_meetings_2 0 12 0 1200 1299 rfl rfl rfl rfl inX12 tyX12 tyX12_ok nmX12 (by decide) (by decide) rfl w_1333 rfl rfl rfl rfl (fun H locs hU hS => ?_)
  refine lv_aload_n hF.1 hF.2.1 dX12_meetings_5 rfl (lv_at hl 0 rfl) ?_
  refine lv_iload_n hF.1 hF.2.1 dX12_meetings_6 rfl (lv_at hl 1 rfl) ?_
  have hM9 := (k_X12_isBuyer l E A (qsI u 1200 0) x h_buyers)
  have hR9 := q_runV (l := l) (e := e0) (below := bl0) (meth := me0) (R := qR 6 0 0) (cells := 0) (slots := 0) (st0 := [.int x, .ref (E.2.2 1299)]) (rest := []) hF hU hS hA 1 0 12 1299 rfl rfl rfl hM9 w_1718 w_1720 w_69 w_107 w_1721 (by decide +kernel) ⟨Nat.le_of_ble_eq_true rfl, Nat.le_of_ble_eq_true rfl⟩ dX12_meetings_7 rfl hl.1 rfl (Nat.le_of_ble_eq_true rfl) ⟨Nat.le_of_ble_eq_true rfl, Nat.le_of_ble_eq_true rfl⟩
  refine q_calli hR9 hU.2.2.2 hS (fun r u1 H locs hw hU hS => ?_)
  rw [hw.1] at hU
  refine q_topi hw.2 ?_
  refine lv_if_eq (tgt := 26) hF.1 hF.2.1 dX12_meetings_10 (by decide) (fun _ => ?_) (fun h9 => absurd (by decide) h9)
  refine lv_iconst (v := (-1)) hF.1 hF.2.1 dX12_meetings_26 (by decide) ?_
  exact q_iret hF hr rfl hlocks hU hS dX12_meetings_27 (k_X12_meetings_r0 x y)
theorem k_X12_doubt_r0 (x : Int32) (y : Int32) (z : Int32) : ((-1) : Int32) = (-1) := by
  first | rfl | (simp only [Int32.lt_iff_toInt_lt, Int32.le_iff_toInt_le, ← Int32.toInt_inj, Int32.zero_add, Int32.add_zero] at *; omega) | (simp only [Int32.lt_iff_toInt_lt, Int32.le_iff_toInt_le, ← Int32.toInt_inj, Int32.zero_add, Int32.add_zero] at *; done) | (simp only [Int32.lt_iff_toInt_lt, Int32.le_iff_toInt_le, ← Int32.toInt_inj, Int32.zero_add, Int32.add_zero] at *; simp at *; omega) | (simp at *; omega) | (simp_all; done)
set_option maxHeartbeats 400000 in
set_option maxRecDepth 100000 in
theorem k_X12_doubt (l : Launch) (E : qE) (A : Nat → Prop) (u : qS) (x : Int32) (y : Int32) (z : Int32) (h_shops : u.1 1232 = 0) : Met l yX12_doubt (uws yX12_doubt cX12_doubt 4 (some .int)) (qR 6 0 0) (qPc E A 1 u [.ref (E.2.2 1299), .int x, .int y, .int z]) (qQi E A 1 (fun r _ => r = (-1))) 0 0 A := by
  refine q_met (own := RX12) (f := 6) [.ref (E.2.2 1299), .int x, .int y, .int z] (by decide) (Nat.le_of_ble_eq_true rfl) rfl ?_
  intro p0 e0 s0 m0 bl0 me0 cd0 ls hF hr hlocks hU hS hA hl
  have hl : lv_has ls 4 [(0, .ref (E.2.2 1299)), (1, .int x), (2, .int y), (3, .int z)] := hl
  refine lv_aload_n hF.1 hF.2.1 dX12_doubt_0 rfl (lv_at hl 0 rfl) ?_
  refine lv_iconst (v := 0) hF.1 hF.2.1 dX12_doubt_1 (by decide) ?_
  refine q_put hF hU hS dX12_doubt_2 0 12 0 1200 1299 rfl rfl rfl rfl inX12 tyX12 tyX12_ok nmX12 (by decide) (by decide) rfl w_1333 rfl rfl rfl rfl (fun H locs hU hS => ?_)
  refine lv_aload_n hF.1 hF.2.1 dX12_doubt_5 rfl (lv_at hl 0 rfl) ?_
  refine lv_iload_n hF.1 hF.2.1 dX12_doubt_6 rfl (lv_at hl 1 rfl) ?_
  refine lv_iload_n hF.1 hF.2.1 dX12_doubt_7 rfl (lv_at hl 2 rfl) ?_
  refine lv_iload_n hF.1 hF.2.1 dX12_doubt_8 rfl (lv_at hl 3 rfl) ?_
  have hM9 := (k_X12_hasMean l E A (qsI u 1200 0) x y z h_shops)
  have hR9 := q_runV (l := l) (e := e0) (below := bl0) (meth := me0) (R := qR 6 0 0) (cells := 0) (slots := 0) (st0 := [.int z, .int y, .int x, .ref (E.2.2 1299)]) (rest := []) hF hU hS hA 3 0 12 1299 rfl rfl rfl hM9 w_1845 w_1847 w_89 w_107 w_1848 (by decide +kernel) ⟨Nat.le_of_ble_eq_true rfl, Nat.le_of_ble_eq_true rfl⟩ dX12_doubt_9 rfl hl.1 rfl (Nat.le_of_ble_eq_true rfl) ⟨Nat.le_of_ble_eq_true rfl, Nat.le_of_ble_eq_true rfl⟩
  refine q_calli hR9 hU.2.2.2 hS (fun r u1 H locs hw hU hS => ?_)
  rw [hw.1] at hU
  refine q_topi hw.2 ?_
  refine lv_if_eq (tgt := 23) hF.1 hF.2.1 dX12_doubt_12 (by decide) (fun _ => ?_) (fun h9 => absurd (by decide) h9)
  refine lv_iconst (v := (-1)) hF.1 hF.2.1 dX12_doubt_23 (by decide) ?_
  exact q_iret hF hr rfl hlocks hU hS dX12_doubt_24 (k_X12_doubt_r0 x y z)
theorem k_X12_areTwo_r0 (x : Int32) (y : Int32) (z : Int32) (w : Int32) (c2_1 : (x : Int32) = y) : (0 : Int32) = 0 := by
  first | rfl | (simp only [Int32.lt_iff_toInt_lt, Int32.le_iff_toInt_le, ← Int32.toInt_inj, Int32.zero_add, Int32.add_zero] at *; omega) | (simp only [Int32.lt_iff_toInt_lt, Int32.le_iff_toInt_le, ← Int32.toInt_inj, Int32.zero_add, Int32.add_zero] at *; done) | (simp only [Int32.lt_iff_toInt_lt, Int32.le_iff_toInt_le, ← Int32.toInt_inj, Int32.zero_add, Int32.add_zero] at *; simp at *; omega) | (simp at *; omega) | (simp_all; done)
theorem k_X12_areTwo_r1 (x : Int32) (y : Int32) (z : Int32) (w : Int32) (c2_1 : ¬ (x : Int32) = y) : (0 : Int32) = 0 := by
  first | rfl | (simp only [Int32.lt_iff_toInt_lt, Int32.le_iff_toInt_le, ← Int32.toInt_inj, Int32.zero_add, Int32.add_zero] at *; omega) | (simp only [Int32.lt_iff_toInt_lt, Int32.le_iff_toInt_le, ← Int32.toInt_inj, Int32.zero_add, Int32.add_zero] at *; done) | (simp only [Int32.lt_iff_toInt_lt, Int32.le_iff_toInt_le, ← Int32.toInt_inj, Int32.zero_add, Int32.add_zero] at *; simp at *; omega) | (simp at *; omega) | (simp_all; done)
set_option maxHeartbeats 400000 in
set_option maxRecDepth 100000 in
theorem k_X12_areTwo (l : Launch) (E : qE) (A : Nat → Prop) (u : qS) (x : Int32) (y : Int32) (z : Int32) (w : Int32) (h_shops : u.1 1232 = 0) : Met l yX12_areTwo (uws yX12_areTwo cX12_areTwo 5 (some .boolean)) (qR 5 0 0) (qPc E A 1 u [.ref (E.2.2 1299), .int x, .int y, .int z, .int w]) (qQi E A 1 (fun r u1 => u1 = u ∧ r = 0)) 0 0 A := by
  refine q_met (own := RX12) (f := 5) [.ref (E.2.2 1299), .int x, .int y, .int z, .int w] (by decide) (Nat.le_of_ble_eq_true rfl) rfl ?_
  intro p0 e0 s0 m0 bl0 me0 cd0 ls hF hr hlocks hU hS hA hl
  have hl : lv_has ls 5 [(0, .ref (E.2.2 1299)), (1, .int x), (2, .int y), (3, .int z), (4, .int w)] := hl
  refine lv_iload_n hF.1 hF.2.1 dX12_areTwo_0 rfl (lv_at hl 1 rfl) ?_
  refine lv_iload_n hF.1 hF.2.1 dX12_areTwo_1 rfl (lv_at hl 2 rfl) ?_
  refine lv_icmp_eq (tgt := 31) hF.1 hF.2.1 dX12_areTwo_2 (by decide) (fun c2_1 => ?_) (fun c2_1 => ?_)
  · refine lv_iconst (v := 0) hF.1 hF.2.1 dX12_areTwo_31 (by decide) ?_
    exact q_iret hF hr (by decide) hlocks hU hS dX12_areTwo_32 (⟨rfl, k_X12_areTwo_r0 x y z w c2_1⟩)
  · refine lv_aload_n hF.1 hF.2.1 dX12_areTwo_5 rfl (lv_at hl 0 rfl) ?_
    refine lv_iload_n hF.1 hF.2.1 dX12_areTwo_6 rfl (lv_at hl 1 rfl) ?_
    refine lv_iload_n hF.1 hF.2.1 dX12_areTwo_7 rfl (lv_at hl 3 rfl) ?_
    refine lv_iload hF.1 hF.2.1 dX12_areTwo_8 (lv_at hl 4 rfl) ?_
    have hM9 := (k_X12_hasMean l E A u x z w h_shops)
    have hR9 := q_runV (l := l) (e := e0) (below := bl0) (meth := me0) (R := qR 5 0 0) (cells := 0) (slots := 0) (st0 := [.int w, .int z, .int x, .ref (E.2.2 1299)]) (rest := []) hF hU hS hA 3 0 12 1299 rfl rfl rfl hM9 w_1845 w_1847 w_89 w_107 w_1848 (by decide +kernel) ⟨Nat.le_of_ble_eq_true rfl, Nat.le_of_ble_eq_true rfl⟩ dX12_areTwo_10 rfl hl.1 rfl (Nat.le_of_ble_eq_true rfl) ⟨Nat.le_of_ble_eq_true rfl, Nat.le_of_ble_eq_true rfl⟩
    refine q_calli hR9 hU.2.2.2 hS (fun r u1 H locs hw hU hS => ?_)
    rw [hw.1] at hU
    refine q_topi hw.2 ?_
    refine lv_if_eq (tgt := 31) hF.1 hF.2.1 dX12_areTwo_13 (by decide) (fun _ => ?_) (fun h9 => absurd (by decide) h9)
    refine lv_iconst (v := 0) hF.1 hF.2.1 dX12_areTwo_31 (by decide) ?_
    exact q_iret hF hr (by decide) hlocks hU hS dX12_areTwo_32 (⟨rfl, k_X12_areTwo_r1 x y z w c2_1⟩)
theorem k_X12_apart_r0 (x : Int32) (y : Int32) (z : Int32) (w : Int32) : ((-1) : Int32) = (-1) := by
  first | rfl | (simp only [Int32.lt_iff_toInt_lt, Int32.le_iff_toInt_le, ← Int32.toInt_inj, Int32.zero_add, Int32.add_zero] at *; omega) | (simp only [Int32.lt_iff_toInt_lt, Int32.le_iff_toInt_le, ← Int32.toInt_inj, Int32.zero_add, Int32.add_zero] at *; done) | (simp only [Int32.lt_iff_toInt_lt, Int32.le_iff_toInt_le, ← Int32.toInt_inj, Int32.zero_add, Int32.add_zero] at *; simp at *; omega) | (simp at *; omega) | (simp_all; done)
set_option maxHeartbeats 400000 in
set_option maxRecDepth 100000 in
theorem k_X12_apart (l : Launch) (E : qE) (A : Nat → Prop) (u : qS) (x : Int32) (y : Int32) (z : Int32) (w : Int32) (h_shops : u.1 1232 = 0) : Met l yX12_apart (uws yX12_apart cX12_apart 5 (some .int)) (qR 6 0 0) (qPc E A 1 u [.ref (E.2.2 1299), .int x, .int y, .int z, .int w]) (qQi E A 1 (fun r _ => r = (-1))) 0 0 A := by
  refine q_met (own := RX12) (f := 6) [.ref (E.2.2 1299), .int x, .int y, .int z, .int w] (by decide) (Nat.le_of_ble_eq_true rfl) rfl ?_
  intro p0 e0 s0 m0 bl0 me0 cd0 ls hF hr hlocks hU hS hA hl
  have hl : lv_has ls 5 [(0, .ref (E.2.2 1299)), (1, .int x), (2, .int y), (3, .int z), (4, .int w)] := hl
  refine lv_aload_n hF.1 hF.2.1 dX12_apart_0 rfl (lv_at hl 0 rfl) ?_
  refine lv_iconst (v := 0) hF.1 hF.2.1 dX12_apart_1 (by decide) ?_
  refine q_put hF hU hS dX12_apart_2 0 12 0 1200 1299 rfl rfl rfl rfl inX12 tyX12 tyX12_ok nmX12 (by decide) (by decide) rfl w_1333 rfl rfl rfl rfl (fun H locs hU hS => ?_)
  refine lv_aload_n hF.1 hF.2.1 dX12_apart_5 rfl (lv_at hl 0 rfl) ?_
  refine lv_iload_n hF.1 hF.2.1 dX12_apart_6 rfl (lv_at hl 1 rfl) ?_
  refine lv_iload_n hF.1 hF.2.1 dX12_apart_7 rfl (lv_at hl 2 rfl) ?_
  refine lv_iload_n hF.1 hF.2.1 dX12_apart_8 rfl (lv_at hl 3 rfl) ?_
  refine lv_iload hF.1 hF.2.1 dX12_apart_9 (lv_at hl 4 rfl) ?_
  have hM9 := (k_X12_areTwo l E A (qsI u 1200 0) x y z w h_shops)
  have hR9 := q_runV (l := l) (e := e0) (below := bl0) (meth := me0) (R := qR 6 0 0) (cells := 0) (slots := 0) (st0 := [.int w, .int z, .int y, .int x, .ref (E.2.2 1299)]) (rest := []) hF hU hS hA 4 0 12 1299 rfl rfl rfl hM9 w_1868 w_1870 w_92 w_107 w_1871 (by decide +kernel) ⟨Nat.le_of_ble_eq_true rfl, Nat.le_of_ble_eq_true rfl⟩ dX12_apart_11 rfl hl.1 rfl (Nat.le_of_ble_eq_true rfl) ⟨Nat.le_of_ble_eq_true rfl, Nat.le_of_ble_eq_true rfl⟩
  refine q_calli hR9 hU.2.2.2 hS (fun r u1 H locs hw hU hS => ?_)
  rw [hw.1] at hU
  refine q_topi hw.2 ?_
  refine lv_if_ne (tgt := 21) hF.1 hF.2.1 dX12_apart_14 (by decide) (fun h9 => absurd (by decide) h9) (fun _ => ?_)
  refine lv_iconst (v := (-1)) hF.1 hF.2.1 dX12_apart_17 (by decide) ?_
  refine lv_goto (tgt := 48) hF.1 hF.2.1 dX12_apart_18 (by decide) ?_
  exact q_iret hF hr rfl hlocks hU hS dX12_apart_48 (k_X12_apart_r0 x y z w)
theorem k_X12_enough_r0 (x : Int32) (y : Int32) (z : Int32) (w : Int32) : ((-1) : Int32) = (-1) := by
  first | rfl | (simp only [Int32.lt_iff_toInt_lt, Int32.le_iff_toInt_le, ← Int32.toInt_inj, Int32.zero_add, Int32.add_zero] at *; omega) | (simp only [Int32.lt_iff_toInt_lt, Int32.le_iff_toInt_le, ← Int32.toInt_inj, Int32.zero_add, Int32.add_zero] at *; done) | (simp only [Int32.lt_iff_toInt_lt, Int32.le_iff_toInt_le, ← Int32.toInt_inj, Int32.zero_add, Int32.add_zero] at *; simp at *; omega) | (simp at *; omega) | (simp_all; done)
set_option maxHeartbeats 400000 in
set_option maxRecDepth 100000 in
theorem k_X12_enough (l : Launch) (E : qE) (A : Nat → Prop) (u : qS) (x : Int32) (y : Int32) (z : Int32) (w : Int32) (h_shops : u.1 1232 = 0) : Met l yX12_enough (uws yX12_enough cX12_enough 7 (some .int)) (qR 6 0 0) (qPc E A 1 u [.ref (E.2.2 1299), .int x, .int y, .int z, .int w]) (qQi E A 1 (fun r _ => r = (-1))) 0 0 A := by
  refine q_met (own := RX12) (f := 6) [.ref (E.2.2 1299), .int x, .int y, .int z, .int w] (by decide) (Nat.le_of_ble_eq_true rfl) rfl ?_
  intro p0 e0 s0 m0 bl0 me0 cd0 ls hF hr hlocks hU hS hA hl
  have hl : lv_has ls 7 [(0, .ref (E.2.2 1299)), (1, .int x), (2, .int y), (3, .int z), (4, .int w)] := hl
  refine lv_aload_n hF.1 hF.2.1 dX12_enough_0 rfl (lv_at hl 0 rfl) ?_
  refine lv_iconst (v := 0) hF.1 hF.2.1 dX12_enough_1 (by decide) ?_
  refine q_put hF hU hS dX12_enough_2 0 12 0 1200 1299 rfl rfl rfl rfl inX12 tyX12 tyX12_ok nmX12 (by decide) (by decide) rfl w_1333 rfl rfl rfl rfl (fun H locs hU hS => ?_)
  refine lv_aload_n hF.1 hF.2.1 dX12_enough_5 rfl (lv_at hl 0 rfl) ?_
  refine lv_iload_n hF.1 hF.2.1 dX12_enough_6 rfl (lv_at hl 1 rfl) ?_
  refine lv_iload_n hF.1 hF.2.1 dX12_enough_7 rfl (lv_at hl 2 rfl) ?_
  refine lv_iload_n hF.1 hF.2.1 dX12_enough_8 rfl (lv_at hl 3 rfl) ?_
  refine lv_iload hF.1 hF.2.1 dX12_enough_9 (lv_at hl 4 rfl) ?_
  have hM9 := (k_X12_areTwo l E A (qsI u 1200 0) x y z w h_shops)
  have hR9 := q_runV (l := l) (e := e0) (below := bl0) (meth := me0) (R := qR 6 0 0) (cells := 0) (slots := 0) (st0 := [.int w, .int z, .int y, .int x, .ref (E.2.2 1299)]) (rest := []) hF hU hS hA 4 0 12 1299 rfl rfl rfl hM9 w_1868 w_1870 w_92 w_107 w_1871 (by decide +kernel) ⟨Nat.le_of_ble_eq_true rfl, Nat.le_of_ble_eq_true rfl⟩ dX12_enough_11 rfl hl.1 rfl (Nat.le_of_ble_eq_true rfl) ⟨Nat.le_of_ble_eq_true rfl, Nat.le_of_ble_eq_true rfl⟩
  refine q_calli hR9 hU.2.2.2 hS (fun r u1 H locs hw hU hS => ?_)
  rw [hw.1] at hU
  refine q_topi hw.2 ?_
  refine lv_if_ne (tgt := 19) hF.1 hF.2.1 dX12_enough_14 (by decide) (fun h9 => absurd (by decide) h9) (fun _ => ?_)
  refine lv_iconst (v := (-1)) hF.1 hF.2.1 dX12_enough_17 (by decide) ?_
  exact q_iret hF hr rfl hlocks hU hS dX12_enough_18 (k_X12_enough_r0 x y z w)
theorem k_X12_may_r0 (x : Int32) (y : Int32) (z : Int32) : ((-1) : Int32) = (-1) := by
  first | rfl | (simp only [Int32.lt_iff_toInt_lt, Int32.le_iff_toInt_le, ← Int32.toInt_inj, Int32.zero_add, Int32.add_zero] at *; omega) | (simp only [Int32.lt_iff_toInt_lt, Int32.le_iff_toInt_le, ← Int32.toInt_inj, Int32.zero_add, Int32.add_zero] at *; done) | (simp only [Int32.lt_iff_toInt_lt, Int32.le_iff_toInt_le, ← Int32.toInt_inj, Int32.zero_add, Int32.add_zero] at *; simp at *; omega) | (simp at *; omega) | (simp_all; done)
set_option maxHeartbeats 400000 in
set_option maxRecDepth 100000 in
theorem k_X12_may (l : Launch) (E : qE) (A : Nat → Prop) (u : qS) (x : Int32) (y : Int32) (z : Int32) (h_buyers : u.1 1239 = 0) : Met l yX12_may (uws yX12_may cX12_may 4 (some .int)) (qR 6 0 0) (qPc E A 1 u [.ref (E.2.2 1299), .int x, .int y, .int z]) (qQi E A 1 (fun r _ => r = (-1))) 0 0 A := by
  refine q_met (own := RX12) (f := 6) [.ref (E.2.2 1299), .int x, .int y, .int z] (by decide) (Nat.le_of_ble_eq_true rfl) rfl ?_
  intro p0 e0 s0 m0 bl0 me0 cd0 ls hF hr hlocks hU hS hA hl
  have hl : lv_has ls 4 [(0, .ref (E.2.2 1299)), (1, .int x), (2, .int y), (3, .int z)] := hl
  refine lv_aload_n hF.1 hF.2.1 dX12_may_0 rfl (lv_at hl 0 rfl) ?_
  refine lv_iconst (v := 0) hF.1 hF.2.1 dX12_may_1 (by decide) ?_
  refine q_put hF hU hS dX12_may_2 0 12 0 1200 1299 rfl rfl rfl rfl inX12 tyX12 tyX12_ok nmX12 (by decide) (by decide) rfl w_1333 rfl rfl rfl rfl (fun H locs hU hS => ?_)
  refine lv_aload_n hF.1 hF.2.1 dX12_may_5 rfl (lv_at hl 0 rfl) ?_
  refine lv_iload_n hF.1 hF.2.1 dX12_may_6 rfl (lv_at hl 1 rfl) ?_
  have hM9 := (k_X12_isBuyer l E A (qsI u 1200 0) x h_buyers)
  have hR9 := q_runV (l := l) (e := e0) (below := bl0) (meth := me0) (R := qR 6 0 0) (cells := 0) (slots := 0) (st0 := [.int x, .ref (E.2.2 1299)]) (rest := []) hF hU hS hA 1 0 12 1299 rfl rfl rfl hM9 w_1718 w_1720 w_69 w_107 w_1721 (by decide +kernel) ⟨Nat.le_of_ble_eq_true rfl, Nat.le_of_ble_eq_true rfl⟩ dX12_may_7 rfl hl.1 rfl (Nat.le_of_ble_eq_true rfl) ⟨Nat.le_of_ble_eq_true rfl, Nat.le_of_ble_eq_true rfl⟩
  refine q_calli hR9 hU.2.2.2 hS (fun r u1 H locs hw hU hS => ?_)
  rw [hw.1] at hU
  refine q_topi hw.2 ?_
  refine lv_if_eq (tgt := 28) hF.1 hF.2.1 dX12_may_10 (by decide) (fun _ => ?_) (fun h9 => absurd (by decide) h9)
  refine lv_iconst (v := (-1)) hF.1 hF.2.1 dX12_may_28 (by decide) ?_
  refine lv_goto (tgt := 47) hF.1 hF.2.1 dX12_may_29 (by decide) ?_
  exact q_iret hF hr rfl hlocks hU hS dX12_may_47 (k_X12_may_r0 x y z)
theorem k_X12_drawn_r0 (x : Int32) (y : Int32) (z : Int32) : ((-1) : Int32) = (-1) := by
  first | rfl | (simp only [Int32.lt_iff_toInt_lt, Int32.le_iff_toInt_le, ← Int32.toInt_inj, Int32.zero_add, Int32.add_zero] at *; omega) | (simp only [Int32.lt_iff_toInt_lt, Int32.le_iff_toInt_le, ← Int32.toInt_inj, Int32.zero_add, Int32.add_zero] at *; done) | (simp only [Int32.lt_iff_toInt_lt, Int32.le_iff_toInt_le, ← Int32.toInt_inj, Int32.zero_add, Int32.add_zero] at *; simp at *; omega) | (simp at *; omega) | (simp_all; done)
set_option maxHeartbeats 400000 in
set_option maxRecDepth 100000 in
theorem k_X12_drawn (l : Launch) (E : qE) (A : Nat → Prop) (u : qS) (x : Int32) (y : Int32) (z : Int32) (h_shops : u.1 1232 = 0) : Met l yX12_drawn (uws yX12_drawn cX12_drawn 10 (some .int)) (qR 6 0 0) (qPc E A 1 u [.ref (E.2.2 1299), .int x, .int y, .int z]) (qQi E A 1 (fun r _ => r = (-1))) 0 0 A := by
  refine q_met (own := RX12) (f := 6) [.ref (E.2.2 1299), .int x, .int y, .int z] (by decide) (Nat.le_of_ble_eq_true rfl) rfl ?_
  intro p0 e0 s0 m0 bl0 me0 cd0 ls hF hr hlocks hU hS hA hl
  have hl : lv_has ls 10 [(0, .ref (E.2.2 1299)), (1, .int x), (2, .int y), (3, .int z)] := hl
  refine lv_aload_n hF.1 hF.2.1 dX12_drawn_0 rfl (lv_at hl 0 rfl) ?_
  refine lv_iconst (v := 0) hF.1 hF.2.1 dX12_drawn_1 (by decide) ?_
  refine q_put hF hU hS dX12_drawn_2 0 12 0 1200 1299 rfl rfl rfl rfl inX12 tyX12 tyX12_ok nmX12 (by decide) (by decide) rfl w_1333 rfl rfl rfl rfl (fun H locs hU hS => ?_)
  refine lv_aload_n hF.1 hF.2.1 dX12_drawn_5 rfl (lv_at hl 0 rfl) ?_
  refine lv_iload_n hF.1 hF.2.1 dX12_drawn_6 rfl (lv_at hl 1 rfl) ?_
  have hM9 := (k_X12_isShop l E A (qsI u 1200 0) x h_shops)
  have hR9 := q_runV (l := l) (e := e0) (below := bl0) (meth := me0) (R := qR 6 0 0) (cells := 0) (slots := 0) (st0 := [.int x, .ref (E.2.2 1299)]) (rest := []) hF hU hS hA 1 0 12 1299 rfl rfl rfl hM9 w_1714 w_1716 w_68 w_107 w_1717 (by decide +kernel) ⟨Nat.le_of_ble_eq_true rfl, Nat.le_of_ble_eq_true rfl⟩ dX12_drawn_7 rfl hl.1 rfl (Nat.le_of_ble_eq_true rfl) ⟨Nat.le_of_ble_eq_true rfl, Nat.le_of_ble_eq_true rfl⟩
  refine q_calli hR9 hU.2.2.2 hS (fun r u1 H locs hw hU hS => ?_)
  rw [hw.1] at hU
  refine q_topi hw.2 ?_
  refine lv_if_eq (tgt := 28) hF.1 hF.2.1 dX12_drawn_10 (by decide) (fun _ => ?_) (fun h9 => absurd (by decide) h9)
  refine lv_iconst (v := (-1)) hF.1 hF.2.1 dX12_drawn_28 (by decide) ?_
  exact q_iret hF hr rfl hlocks hU hS dX12_drawn_29 (k_X12_drawn_r0 x y z)
theorem k_X12_sway_r0 (x : Int32) (y : Int32) : ((-1) : Int32) = (-1) := by
  first | rfl | (simp only [Int32.lt_iff_toInt_lt, Int32.le_iff_toInt_le, ← Int32.toInt_inj, Int32.zero_add, Int32.add_zero] at *; omega) | (simp only [Int32.lt_iff_toInt_lt, Int32.le_iff_toInt_le, ← Int32.toInt_inj, Int32.zero_add, Int32.add_zero] at *; done) | (simp only [Int32.lt_iff_toInt_lt, Int32.le_iff_toInt_le, ← Int32.toInt_inj, Int32.zero_add, Int32.add_zero] at *; simp at *; omega) | (simp at *; omega) | (simp_all; done)
set_option maxHeartbeats 400000 in
set_option maxRecDepth 100000 in
theorem k_X12_sway (l : Launch) (E : qE) (A : Nat → Prop) (u : qS) (x : Int32) (y : Int32) (h_shops : u.1 1232 = 0) : Met l yX12_sway (uws yX12_sway cX12_sway 8 (some .int)) (qR 6 0 0) (qPc E A 1 u [.ref (E.2.2 1299), .int x, .int y]) (qQi E A 1 (fun r _ => r = (-1))) 0 0 A := by
  refine q_met (own := RX12) (f := 6) [.ref (E.2.2 1299), .int x, .int y] (by decide) (Nat.le_of_ble_eq_true rfl) rfl ?_
  intro p0 e0 s0 m0 bl0 me0 cd0 ls hF hr hlocks hU hS hA hl
  have hl : lv_has ls 8 [(0, .ref (E.2.2 1299)), (1, .int x), (2, .int y)] := hl
  refine lv_aload_n hF.1 hF.2.1 dX12_sway_0 rfl (lv_at hl 0 rfl) ?_
  refine lv_iconst (v := 0) hF.1 hF.2.1 dX12_sway_1 (by decide) ?_
  refine q_put hF hU hS dX12_sway_2 0 12 0 1200 1299 rfl rfl rfl rfl inX12 tyX12 tyX12_ok nmX12 (by decide) (by decide) rfl w_1333 rfl rfl rfl rfl (fun H locs hU hS => ?_)
  refine lv_aload_n hF.1 hF.2.1 dX12_sway_5 rfl (lv_at hl 0 rfl) ?_
  refine lv_iload_n hF.1 hF.2.1 dX12_sway_6 rfl (lv_at hl 1 rfl) ?_
  have hM9 := (k_X12_isShop l E A (qsI u 1200 0) x h_shops)
  have hR9 := q_runV (l := l) (e := e0) (below := bl0) (meth := me0) (R := qR 6 0 0) (cells := 0) (slots := 0) (st0 := [.int x, .ref (E.2.2 1299)]) (rest := []) hF hU hS hA 1 0 12 1299 rfl rfl rfl hM9 w_1714 w_1716 w_68 w_107 w_1717 (by decide +kernel) ⟨Nat.le_of_ble_eq_true rfl, Nat.le_of_ble_eq_true rfl⟩ dX12_sway_7 rfl hl.1 rfl (Nat.le_of_ble_eq_true rfl) ⟨Nat.le_of_ble_eq_true rfl, Nat.le_of_ble_eq_true rfl⟩
  refine q_calli hR9 hU.2.2.2 hS (fun r u1 H locs hw hU hS => ?_)
  rw [hw.1] at hU
  refine q_topi hw.2 ?_
  refine lv_if_eq (tgt := 22) hF.1 hF.2.1 dX12_sway_10 (by decide) (fun _ => ?_) (fun h9 => absurd (by decide) h9)
  refine lv_iconst (v := (-1)) hF.1 hF.2.1 dX12_sway_22 (by decide) ?_
  refine lv_istore_n (lv' := [(3, .int (-1)), (0, .ref (E.2.2 1299)), (1, .int x), (2, .int y)]) hF.1 hF.2.1 dX12_sway_23 rfl hl (by decide) rfl (fun ls hl => ?_)
  refine lv_iload_n hF.1 hF.2.1 dX12_sway_24 rfl (lv_at hl 0 rfl) ?_
  refine lv_if_lt (tgt := 37) hF.1 hF.2.1 dX12_sway_25 (by decide) (fun _ => ?_) (fun h9 => absurd (by decide) h9)
  refine lv_iconst (v := (-1)) hF.1 hF.2.1 dX12_sway_37 (by decide) ?_
  exact q_iret hF hr rfl hlocks hU hS dX12_sway_38 (k_X12_sway_r0 x y)
theorem k_X12_given_r0 (x : Int32) (y : Int32) (z : Int32) (c6_1 : (x : Int32) ≤ 0) : ((-1) : Int32) = (-1) := by
  first | rfl | (simp only [Int32.lt_iff_toInt_lt, Int32.le_iff_toInt_le, ← Int32.toInt_inj, Int32.zero_add, Int32.add_zero] at *; omega) | (simp only [Int32.lt_iff_toInt_lt, Int32.le_iff_toInt_le, ← Int32.toInt_inj, Int32.zero_add, Int32.add_zero] at *; done) | (simp only [Int32.lt_iff_toInt_lt, Int32.le_iff_toInt_le, ← Int32.toInt_inj, Int32.zero_add, Int32.add_zero] at *; simp at *; omega) | (simp at *; omega) | (simp_all; done)
theorem k_X12_given_r1 (x : Int32) (y : Int32) (z : Int32) (c6_1 : ¬ (x : Int32) ≤ 0) (c16_2 : 1 ≤ (x : Int32)) : ((-1) : Int32) = (-1) := by
  first | rfl | (simp only [Int32.lt_iff_toInt_lt, Int32.le_iff_toInt_le, ← Int32.toInt_inj, Int32.zero_add, Int32.add_zero] at *; omega) | (simp only [Int32.lt_iff_toInt_lt, Int32.le_iff_toInt_le, ← Int32.toInt_inj, Int32.zero_add, Int32.add_zero] at *; done) | (simp only [Int32.lt_iff_toInt_lt, Int32.le_iff_toInt_le, ← Int32.toInt_inj, Int32.zero_add, Int32.add_zero] at *; simp at *; omega) | (simp at *; omega) | (simp_all; done)
theorem k_X12_given_r2 (x : Int32) (y : Int32) (z : Int32) (c6_1 : ¬ (x : Int32) ≤ 0) (c16_2 : ¬ 1 ≤ (x : Int32)) : False := by
  first | rfl | (simp only [Int32.lt_iff_toInt_lt, Int32.le_iff_toInt_le, ← Int32.toInt_inj, Int32.zero_add, Int32.add_zero] at *; omega) | (simp only [Int32.lt_iff_toInt_lt, Int32.le_iff_toInt_le, ← Int32.toInt_inj, Int32.zero_add, Int32.add_zero] at *; done) | (simp only [Int32.lt_iff_toInt_lt, Int32.le_iff_toInt_le, ← Int32.toInt_inj, Int32.zero_add, Int32.add_zero] at *; simp at *; omega) | (simp at *; omega) | (simp_all; done)
set_option maxHeartbeats 400000 in
set_option maxRecDepth 100000 in
theorem k_X12_given (l : Launch) (E : qE) (A : Nat → Prop) (u : qS) (x : Int32) (y : Int32) (z : Int32) (h_shops : u.1 1232 = 0) : Met l yX12_given (uws yX12_given cX12_given 6 (some .int)) (qR 6 0 0) (qPc E A 1 u [.ref (E.2.2 1299), .int x, .int y, .int z]) (qQi E A 1 (fun r _ => r = (-1))) 0 0 A := by
  refine q_met (own := RX12) (f := 6) [.ref (E.2.2 1299), .int x, .int y, .int z] (by decide) (Nat.le_of_ble_eq_true rfl) rfl ?_
  intro p0 e0 s0 m0 bl0 me0 cd0 ls hF hr hlocks hU hS hA hl
  have hl : lv_has ls 6 [(0, .ref (E.2.2 1299)), (1, .int x), (2, .int y), (3, .int z)] := hl
  refine lv_aload_n hF.1 hF.2.1 dX12_given_0 rfl (lv_at hl 0 rfl) ?_
  refine lv_iconst (v := 0) hF.1 hF.2.1 dX12_given_1 (by decide) ?_
  refine q_put hF hU hS dX12_given_2 0 12 0 1200 1299 rfl rfl rfl rfl inX12 tyX12 tyX12_ok nmX12 (by decide) (by decide) rfl w_1333 rfl rfl rfl rfl (fun H locs hU hS => ?_)
  refine lv_iload_n hF.1 hF.2.1 dX12_given_5 rfl (lv_at hl 1 rfl) ?_
  refine lv_if_le (tgt := 59) hF.1 hF.2.1 dX12_given_6 (by decide) (fun c6_1 => ?_) (fun c6_1 => ?_)
  · refine lv_iconst (v := (-1)) hF.1 hF.2.1 dX12_given_59 (by decide) ?_
    exact q_iret hF hr rfl hlocks hU hS dX12_given_60 (k_X12_given_r0 x y z c6_1)
  · refine lv_iload_n hF.1 hF.2.1 dX12_given_9 rfl (lv_at hl 1 rfl) ?_
    refine lv_iconst (v := 1) hF.1 hF.2.1 dX12_given_10 (by decide) ?_
    refine lv_aload_n hF.1 hF.2.1 dX12_given_11 rfl (lv_at hl 0 rfl) ?_
    refine q_get (v := .int 0) hF hU dX12_given_12 0 12 32 1232 1299 rfl rfl rfl rfl inX12 (by decide) (by decide) w_1365 rfl (congrArg Value.int h_shops) ?_
    refine lv_ishl hF.1 hF.2.1 dX12_given_15 ?_
    refine q_topi (y := 1) (by decide) ?_
    refine lv_icmp_ge (tgt := 59) hF.1 hF.2.1 dX12_given_16 (by decide) (fun c16_2 => ?_) (fun c16_2 => ?_)
    · refine lv_iconst (v := (-1)) hF.1 hF.2.1 dX12_given_59 (by decide) ?_
      exact q_iret hF hr rfl hlocks hU hS dX12_given_60 (k_X12_given_r1 x y z c6_1 c16_2)
    · exact (k_X12_given_r2 x y z c6_1 c16_2).elim
